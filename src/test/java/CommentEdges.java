/** Promises 27 to 30: each sentence that names a boundary case has a test of its own. */
final class CommentEdges {
    private static final int NONE = DraftCommon.NONE;

    private CommentEdges() {
    }

    static void run() {
        commentTakesPlacesOfTheText();
        commentTakesToFromFromOn();
        commentOfNoneAndOfAll();
        commentTakes40();
        commentThrowsTheFirstOfItsExceptions();
        commentRefusedChangesNothing();
        spanTakesComments();
        spanOfTheFirstAndTheLastPlace();
        spanHasBothEndsIfTheyAreThere();
        spanOfOneWord();
        spanIsNoneIfThereAreNoSuchWords();
        spanHasWordsThatCameBetweenItsEnds();
        spanOfFrozenWords();
        spanOfWordsWhoseNumbersAreNotTheirPlaces();
        keepTakes20();
        keepKeepsTheTextOfThen();
        compareTakesVersions();
        compareOfNoneAndOfAll();
        compareWithItself();
        compareTheFirstAndTheLast();
        compareWordsWhoseNumbersAreNotTheirPlaces();
    }

    // ---- 27: comment

    private static void commentTakesPlacesOfTheText() {
        Play x = Play.withWords("27: places of the text", 3).due(3, "type", 0, 3, 7);
        x.noPlaceFrom(3, 0, "comment", 0, 2).noPlaceFrom(3, 1, "comment", 0, 0).noPlace("comment", 3, 3);
        x.noPlace("comment", -1, -1).due(0, "comment", 0, 0).due(1, "comment", 2, 2).due(2, "comment", 0, 2);
        x.due(0, "merge", 0).due(3, "comment", 3, 3).noPlace("comment", 4, 4).due(3001, "span", 3);
    }

    private static void commentTakesToFromFromOn() {
        Play x = Play.withWords("27: to, from or behind it", 3).noArgument("comment", 1, 0).noArgument("comment", 2, 1);
        x.noArgument("comment", 2, 0).due(0, "comment", 1, 1).due(1, "comment", 1, 2).due(1001, "span", 0);
        x.due(1002, "span", 1).noPlace("span", 2);
    }

    private static void commentOfNoneAndOfAll() {
        Play x = Play.begin("27: an empty text").noPlace("comment", 0, 0).due(0, "type", 0, 0, 7)
                .noPlace("comment", 0, 0);
        x.due(0, "merge", 0).due(0, "comment", 0, 0).due(0, "delete", 0, 0).due(0, "merge", 0).noPlace("comment", 0, 0);

        Play y = Play.withWords("27: all of 300 words", 300).noPlace("comment", 0, 300).due(0, "comment", 0, 299);
        y.due(300, "span", 0).due(1, "comment", 299, 299).due(299001, "span", 1);
    }

    private static void commentTakes40() {
        Play x = Play.withWords("27: 40 comments", 40);
        for (int i = 0; i < 40; i++) {
            x.due(i, "comment", i, i);
        }
        x.noState("comment", 0, 0).noState("comment", 39, 39).noPlace("span", 40).due(39001, "span", 39);
        for (int i = 0; i < 40; i++) {
            x.due(i, "delete", 0, 0);
        }
        x.due(0, "merge", 0).due(NONE, "span", 0).due(40, "type", 0, 0, 7).due(0, "merge", 0).noState("comment", 0, 0);
    }

    private static void commentThrowsTheFirstOfItsExceptions() {
        Play x = Play.withWords("27: the first of its exceptions", 3).noPlace("comment", 3, 1)
                .noPlace("comment", 1, -1);
        x.noPlace("comment", 4, 3).noPlace("comment", -1, -2).noArgument("comment", 2, 1);
        for (int i = 0; i < 40; i++) {
            x.due(i, "comment", 0, 2);
        }
        x.noState("comment", 0, 2).noPlace("comment", 3, 1).noPlace("comment", 0, 3).noPlace("comment", -1, 0);
        x.noArgument("comment", 2, 1).noArgument("comment", 1, 0).noState("comment", 1, 1);
    }

    private static void commentRefusedChangesNothing() {
        Play x = Play.withWords("27: a refused call", 3).due(0, "comment", 0, 1).noArgument("comment", 2, 1);
        x.noPlace("comment", 2, 3).noPlace("span", 1).due(2, "span", 0).due(1, "comment", 2, 2).due(2001, "span", 1);
        x.due(2, "span", 0).due(0, "delete", 0, 0).due(0, "merge", 0).due(1, "span", 0).due(1001, "span", 1);
    }

    // ---- 28: span

    private static void spanTakesComments() {
        Play x = Play.withWords("28: a comment", 2).noPlaceFrom(0, 0, "span", 0).due(0, "comment", 0, 1);
        x.noPlaceFrom(1, 0, "span", 0).due(2, "span", 0);
        for (int i = 1; i < 40; i++) {
            x.due(i, "comment", i % 2, 1);
        }
        x.noPlaceFrom(40, 0, "span", 0).due(1001, "span", 39).due(2, "span", 38).due(2, "span", 0);
    }

    private static void spanOfTheFirstAndTheLastPlace() {
        Play x = Play.withWords("28: 1000 times the place of its first word, and how many, added", 300);
        x.due(0, "comment", 0, 0).due(1, "comment", 299, 299).due(2, "comment", 0, 299).due(3, "comment", 1, 298);
        x.due(1, "span", 0).due(299001, "span", 1).due(300, "span", 2).due(1298, "span", 3);
        x.due(0, "delete", 0, 0).due(299, "delete", 0, 298).due(0, "merge", 0).due(NONE, "span", 0)
                .due(NONE, "span", 1);
        x.due(298, "span", 2).due(298, "span", 3);
    }

    private static void spanHasBothEndsIfTheyAreThere() {
        Play x = Play.withWords("28: both included, if they are there", 5).due(0, "comment", 1, 3).due(1003, "span", 0);
        x.due(1, "delete", 0, 1).due(1003, "span", 0).due(0, "merge", 0).due(1002, "span", 0);
        x.due(3, "delete", 0, 2).due(0, "merge", 0).due(1001, "span", 0).due(5, "type", 0, 1, 7)
                .due(6, "type", 0, 3, 7);
        x.due(0, "merge", 0).textIs("0 5 2 6 4").due(2002, "span", 0);
    }

    private static void spanOfOneWord() {
        Play x = Play.withWords("28: one word", 3).due(0, "comment", 1, 1).due(3, "type", 0, 1, 7)
                .due(4, "type", 0, 3, 7);
        x.due(0, "merge", 0).textIs("0 3 1 4 2").due(2001, "span", 0).due(0, "merge", 1).due(5, "type", 1, 3, 7);
        x.due(1, "delete", 0, 2).due(0, "merge", 0).due(NONE, "span", 0).due(0, "merge", 1).textIs("0 3 5 4 2");
        x.due(NONE, "span", 0);
    }

    private static void spanIsNoneIfThereAreNoSuchWords() {
        Play x = Play.withWords("28: NONE if it has none", 3).due(0, "comment", 0, 2).due(0, "merge", 1);
        x.due(0, "delete", 0, 0).due(1, "delete", 0, 0).due(2, "delete", 0, 0).due(3, "span", 0).due(0, "merge", 0);
        x.due(NONE, "span", 0).due(0, "length").due(3, "type", 0, 0, 7).due(0, "merge", 0).due(NONE, "span", 0);
        x.due(4, "type", 1, 3, 7).due(5, "type", 1, 2, 7).due(0, "merge", 1).textIs("3 5 4").due(1001, "span", 0);
        x.due(5, "delete", 1, 1).due(0, "merge", 1).due(NONE, "span", 0);
    }

    private static void spanHasWordsThatCameBetweenItsEnds() {
        Play x = Play.withWords("28: all words of the text in the row from the one to the other", 2);
        x.due(0, "comment", 0, 1).due(0, "merge", 1).due(0, "delete", 0, 0).due(1, "delete", 0, 0).due(0, "merge", 0);
        x.due(NONE, "span", 0).due(2, "type", 1, 1, 7).due(3, "type", 1, 2, 7).due(4, "type", 1, 0, 7);
        x.due(5, "type", 1, 5, 7).copyIs(1, "4 0 2 3 1 5").due(0, "merge", 1).textIs("4 2 3 5").due(1002, "span", 0);
    }

    private static void spanOfFrozenWords() {
        Play x = Play.withWords("28: frozen words stay in it", 3).due(0, "comment", 0, 2).due(0, "order", 0, 0, 2);
        x.due(0, "delete", 0, 0).due(3, "type", 0, 1, 7).due(2, "merge", 0).due(3, "span", 0);
    }

    private static void spanOfWordsWhoseNumbersAreNotTheirPlaces() {
        Play x = Play.withWordsBackwards("28: tied to words, not to places or numbers", 5).textIs("4 3 2 1 0");
        x.due(0, "comment", 1, 2).due(1, "comment", 0, 0).due(2, "comment", 3, 4).due(1002, "span", 0)
                .due(1, "span", 1);
        x.due(3002, "span", 2).due(4, "delete", 0, 0).due(0, "merge", 0).due(2, "span", 0).due(NONE, "span", 1);
        x.due(2002, "span", 2).due(3, "delete", 0, 0).due(0, "delete", 0, 2).due(0, "merge", 0).textIs("2 1");
        x.due(1, "span", 0).due(1001, "span", 2).due(5, "type", 0, 2, 7).due(0, "merge", 0).due(1002, "span", 2);
    }

    // ---- 29: keep

    private static void keepTakes20() {
        Play x = Play.begin("29: 20 versions");
        for (int i = 0; i < 20; i++) {
            x.due(i, "keep").due(i, "type", 0, i, 7).due(0, "merge", 0);
        }
        x.noState("keep").noPlace("compare", 20, 0).due(19000, "compare", 0, 19).due(20, "type", 0, 0, 7);
        x.due(0, "merge", 0).noState("keep").due(0, "compare", 19, 19).due(1, "compare", 19, 18)
                .due(1000, "compare", 18, 19);
    }

    private static void keepKeepsTheTextOfThen() {
        Play x = Play.withWords("29: which words are in the text", 2).due(2, "type", 0, 0, 7).due(1, "delete", 0, 2);
        x.due(0, "keep").due(0, "merge", 0).due(1, "keep").due(1001, "compare", 0, 1).due(1001, "compare", 1, 0);
        x.due(2, "delete", 0, 0).due(0, "delete", 0, 0).due(0, "merge", 0).due(1001, "compare", 0, 1).due(2, "keep");
        x.due(2, "compare", 0, 2).due(2, "compare", 1, 2).due(2000, "compare", 2, 1);
    }

    // ---- 30: compare

    private static void compareTakesVersions() {
        Play x = Play.withWords("30: versions", 1).noPlaceFrom(0, 0, "compare", 0, 0).due(0, "keep");
        x.noPlaceFrom(1, 0, "compare", 0, 0).noPlaceFrom(1, 1, "compare", 0, 0).due(0, "compare", 0, 0).due(1, "keep");
        x.noPlaceFrom(2, 0, "compare", 0, 1).noPlaceFrom(2, 1, "compare", 1, 0).noPlace("compare", 2, 2);
        x.noPlace("compare", -1, -1).due(0, "compare", 0, 1).due(0, "compare", 1, 0);
        for (int i = 2; i < 20; i++) {
            x.due(i, "keep");
        }
        x.due(0, "compare", 19, 0).due(0, "compare", 0, 19).noPlaceFrom(20, 0, "compare", 0, 0);
        x.noPlaceFrom(20, 1, "compare", 0, 0);
    }

    private static void compareOfNoneAndOfAll() {
        Play x = Play.begin("30: none, and all").due(0, "keep");
        for (int i = 0; i < 300; i++) {
            x.due(i, "type", 0, i, 7);
        }
        x.due(1, "keep").due(0, "compare", 0, 1).due(0, "merge", 0).due(2, "keep").due(300000, "compare", 0, 2);
        x.due(300, "compare", 2, 0).due(0, "compare", 2, 2);
        for (int i = 0; i < 100; i++) {
            x.due(299 - i, "delete", 0, 299 - i);
        }
        x.due(0, "merge", 0).due(3, "keep").due(100, "compare", 2, 3).due(100000, "compare", 3, 2);
        x.due(200000, "compare", 0, 3).due(200, "compare", 3, 1);
    }

    private static void compareWithItself() {
        Play x = Play.begin("30: with itself").due(0, "keep").due(0, "compare", 0, 0).due(0, "type", 0, 0, 7);
        x.due(0, "merge", 0).due(1, "keep").due(0, "compare", 1, 1).due(0, "delete", 0, 0).due(0, "merge", 0);
        x.due(2, "keep").due(0, "compare", 2, 2).due(0, "compare", 0, 2).due(1, "compare", 1, 2)
                .due(1000, "compare", 2, 1);
    }

    private static void compareWordsWhoseNumbersAreNotTheirPlaces() {
        Play x = Play.withWordsBackwards("30: words, not places", 5).due(0, "keep").due(4, "delete", 0, 0);
        x.due(3, "delete", 0, 0).due(5, "type", 0, 3, 7).due(0, "merge", 0).textIs("2 1 0 5").due(1, "keep");
        x.due(1002, "compare", 0, 1).due(2001, "compare", 1, 0).due(6, "type", 0, 0, 7).due(0, "merge", 0)
                .due(2, "keep");
        x.due(1000, "compare", 1, 2).due(2002, "compare", 0, 2).due(2002, "compare", 2, 0);
    }

    private static void compareTheFirstAndTheLast() {
        Play x = Play.withWords("30: version 0, and version 19", 20);
        for (int i = 0; i < 20; i++) {
            x.due(i, "keep").due(i, "delete", 0, 0).due(0, "merge", 0);
        }
        for (int i = 0; i < 20; i++) {
            x.due(i, "compare", 0, i).due(1000 * i, "compare", i, 0).due(19 - i, "compare", i, 19);
        }
    }
}
