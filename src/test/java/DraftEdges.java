/** Promises 8 to 13: each sentence that names a boundary case has a test of its own. */
final class DraftEdges {
    private static final int NONE = DraftCommon.NONE;

    private DraftEdges() {
    }

    static void run() {
        lengthOfNoneAndOfAll();
        wordAtTakesPlacesOfTheText();
        wordAtOfAnEmptyAndOfAFullText();
        wordTakesNumbersOfWords();
        wordOfTheLeastAndTheGreatest();
        wordOfWordsThatAreNotInTheText();
        placeOfTakesNumbersOfWords();
        placeOfTheFirstAndTheLast();
        placeOfIsNoneOutsideOfTheText();
        shareTakesWriters0To5();
        shareOfNoneAndOfAll();
        shareAnewTakesWriters0To5();
        shareAnewOfNoneAndOfAll();
        shareAnewLeavesOutWhatWasRefused();
    }

    // ---- 8: length

    private static void lengthOfNoneAndOfAll() {
        Play x = Play.begin("8: none, and all").due(0, "length");
        for (int i = 0; i < 300; i++) {
            x.due(i, "type", 0, i, 7);
        }
        x.due(0, "length").due(0, "merge", 0).due(300, "length").due(0, "delete", 0, 0).due(300, "length");
        x.due(0, "merge", 0).due(299, "length").due(0, "merge", 1);
        for (int i = 0; i < 150; i++) {
            x.due(i + 1, "delete", 1, 0);
        }
        x.due(299, "length").due(0, "merge", 1).due(149, "length");

        Play y = Play.withWords("8: down to none", 1).due(1, "length").due(0, "delete", 0, 0).due(0, "merge", 0);
        y.due(0, "length").due(1, "type", 0, 0, 7).due(0, "merge", 0).due(1, "length");
    }

    // ---- 9: wordAt

    private static void wordAtTakesPlacesOfTheText() {
        Play x = Play.withWords("9: a place of the text", 3).noPlaceFrom(3, 0, "wordAt", 0);
        x.due(0, "wordAt", 0).due(2, "wordAt", 2).due(3, "type", 0, 3, 7).noPlace("wordAt", 3);
        x.due(0, "merge", 0).due(3, "wordAt", 3).noPlace("wordAt", 4).due(1, "delete", 0, 1).due(3, "wordAt", 3);
        x.due(0, "merge", 0).due(0, "wordAt", 0).due(2, "wordAt", 1).due(3, "wordAt", 2).noPlace("wordAt", 3);
    }

    private static void wordAtOfAnEmptyAndOfAFullText() {
        Play.begin("9: an empty text").due(0, "type", 0, 0, 7).noPlaceFrom(0, 0, "wordAt", 0);
        Play x = Play.withWords("9: a full text", 300).noPlaceFrom(300, 0, "wordAt", 0);
        x.due(0, "wordAt", 0).due(299, "wordAt", 299).due(0, "delete", 0, 0).due(0, "merge", 0);
        x.due(1, "wordAt", 0).due(299, "wordAt", 298).noPlace("wordAt", 299);

        Play y = Play.withWords("9: a text that is empty again", 1).due(0, "delete", 0, 0).due(0, "merge", 0);
        y.noPlaceFrom(0, 0, "wordAt", 0);
    }

    // ---- 10: word

    private static void wordTakesNumbersOfWords() {
        Play x = Play.begin("10: the number of a word").noPlaceFrom(0, 0, "word", 0).due(0, "type", 0, 0, 7);
        x.noPlaceFrom(1, 0, "word", 0).due(7, "word", 0).due(1, "type", 0, 0, 8).due(8, "word", 1);
        x.noPlaceFrom(2, 0, "word", 0);

        Play y = Play.withWords("10: the number of a word, of 300", 299).noPlace("word", 299);
        y.due(299, "type", 2, 0, 999).due(2999, "word", 299).due(298, "word", 298).noPlaceFrom(300, 0, "word", 0);
    }

    private static void wordOfTheLeastAndTheGreatest() {
        Play x = Play.begin("10: 1000 times its writer, and the word, added");
        x.due(0, "type", 0, 0, 0).due(1, "type", 0, 0, 999).due(2, "type", 5, 0, 0).due(3, "type", 5, 0, 999);
        x.due(0, "word", 0).due(999, "word", 1).due(5000, "word", 2).due(5999, "word", 3);
    }

    private static void wordOfWordsThatAreNotInTheText() {
        Play x = Play.withWords("10: words that are not in the text", 3).due(0, "merge", 1).due(0, "order", 0, 0, 1);
        x.due(3, "type", 1, 1, 33).due(1, "merge", 1).due(4, "type", 1, 0, 44).due(2, "delete", 0, 2);
        x.due(0, "merge", 0).due(2, "word", 2).due(1033, "word", 3).due(1044, "word", 4).noPlace("word", 5);
    }

    // ---- 11: placeOf

    private static void placeOfTakesNumbersOfWords() {
        Play x = Play.begin("11: the number of a word").noPlaceFrom(0, 0, "placeOf", 0).due(0, "type", 0, 0, 7);
        x.noPlaceFrom(1, 0, "placeOf", 0).due(NONE, "placeOf", 0).due(0, "merge", 0).due(0, "placeOf", 0);
        x.noPlaceFrom(1, 0, "placeOf", 0);
    }

    private static void placeOfTheFirstAndTheLast() {
        Play x = Play.withWords("11: the first and the last of 300", 300);
        x.due(0, "placeOf", 0).due(299, "placeOf", 299).noPlaceFrom(300, 0, "placeOf", 0);
        x.due(0, "delete", 0, 0).due(0, "merge", 0).due(NONE, "placeOf", 0).due(0, "placeOf", 1)
                .due(298, "placeOf", 299);
    }

    private static void placeOfIsNoneOutsideOfTheText() {
        Play x = Play.withWords("11: NONE if it is not in the text", 3).due(0, "merge", 1).due(0, "order", 0, 0, 1);
        x.due(3, "type", 1, 1, 33).due(NONE, "placeOf", 3).due(1, "merge", 1).due(NONE, "placeOf", 3);
        x.due(4, "type", 1, 0, 44).due(NONE, "placeOf", 4).due(2, "delete", 0, 2).due(2, "placeOf", 2);
        x.due(0, "merge", 0).due(NONE, "placeOf", 2).due(0, "merge", 1).due(0, "placeOf", 4).due(2, "placeOf", 1);
        x.due(2, "cancel", 0).due(NONE, "placeOf", 3).noPlace("placeOf", 5);
    }

    // ---- 12: share

    private static void shareTakesWriters0To5() {
        Play x = Play.withWords("12: writer, 0 to 5", 2).due(2, "type", 5, 0, 7).noPlaceFrom(6, 0, "share", 0);
        x.due(0, "merge", 5).due(2, "share", 0).due(0, "share", 1).due(0, "share", 4).due(1, "share", 5);
        x.noPlaceFrom(6, 0, "share", 0);
    }

    private static void shareOfNoneAndOfAll() {
        Play x = Play.begin("12: none, and all").due(0, "share", 5);
        for (int i = 0; i < 300; i++) {
            x.due(i, "type", 5, i, 7);
        }
        x.due(0, "share", 5).due(0, "merge", 5).due(300, "share", 5).due(0, "share", 0).due(0, "merge", 0);
        x.due(300, "share", 5).due(0, "share", 0).due(299, "delete", 0, 299).due(0, "merge", 0).due(299, "share", 5);

        Play y = Play.withWords("12: none any more", 1).due(0, "delete", 0, 0).due(1, "share", 0).due(0, "merge", 0);
        y.due(0, "share", 0);
    }

    // ---- 13: shareAnew

    private static void shareAnewTakesWriters0To5() {
        Play x = Play.withWords("13: writer, 0 to 5", 2).due(2, "type", 5, 0, 7).noPlaceFrom(6, 0, "shareAnew", 0);
        x.due(0, "merge", 5).due(2, "shareAnew", 0).due(0, "shareAnew", 1).due(0, "shareAnew", 4);
        x.due(1, "shareAnew", 5).noPlaceFrom(6, 0, "shareAnew", 0).textIs("2 0 1");
    }

    private static void shareAnewOfNoneAndOfAll() {
        Play x = Play.begin("13: none, and all").due(0, "shareAnew", 5);
        for (int i = 0; i < 300; i++) {
            x.due(i, "type", 5, i, 7);
        }
        x.due(0, "shareAnew", 5).due(0, "merge", 5).due(300, "shareAnew", 5).due(0, "merge", 0);
        for (int i = 0; i < 150; i++) {
            x.due(i, "delete", 0, 0);
        }
        x.due(300, "shareAnew", 5).due(0, "merge", 0).due(150, "shareAnew", 5).due(0, "shareAnew", 0);
        x.due(150, "length").due(150, "wordAt", 0).due(150, "copy", 0).due(300, "copy", 5);

        Play y = Play.withWords("13: none any more", 1).due(0, "delete", 0, 0).due(1, "shareAnew", 0);
        y.due(0, "merge", 0).due(0, "shareAnew", 0);
    }

    private static void shareAnewLeavesOutWhatWasRefused() {
        Play x = Play.withWords("13: changes that were merged, and not refused", 3).due(0, "merge", 1);
        x.due(0, "order", 0, 0, 1).due(3, "type", 1, 1, 7).due(4, "type", 1, 4, 7).due(0, "delete", 1, 0);
        x.due(2, "merge", 1).due(1, "shareAnew", 1).due(3, "shareAnew", 0).due(2, "cancel", 0);
        x.due(1, "shareAnew", 1).due(3, "shareAnew", 0).due(4, "delete", 1, 3).due(1, "shareAnew", 1);
        x.due(0, "merge", 1).due(0, "shareAnew", 1).due(3, "shareAnew", 0).textIs("0 1 2");
    }
}
