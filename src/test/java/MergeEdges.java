/** Promise 4, and what the Terms say of a merge: where a word comes in, and what is refused. */
final class MergeEdges {
    private static final int NONE = DraftCommon.NONE;

    private MergeEdges() {
    }

    static void run() {
        withoutAnchorAtTheVeryBeginning();
        rightBehindItsAnchor();
        behindAnAnchorThatIsDeleted();
        changesAreDoneInTheirOrder();
        refusedBetweenTwoWordsOfAReview();
        notRefusedAtTheBordersOfAReview();
        notRefusedBetweenTwoReviews();
        notRefusedAroundAReviewOfOneWord();
        refusedAroundDeletedWordsOfAReview();
        notRefusedBehindDeletedWordsAtTheBorders();
        refusedEverywhereInsideOfAReviewOfAll();
        refusedAsLongAsAReviewFreezes();
        anchorOfARefusedAnchor();
        aChainOfRefusedAnchorsOfAllWords();
        deletingFrozenWordsIsRefused();
        deletingWordsBesideFrozenOnesIsNot();
        deletingWhatIsDeletedIsNoRefusal();
        deletingWhatDidNotComeInIsNoRefusal();
        refusalsAreCounted();
    }

    private static void withoutAnchorAtTheVeryBeginning() {
        Play x = Play.withWords("4: at the very beginning, if it has none", 2);
        x.due(0, "merge", 1).due(2, "type", 1, 1, 7).due(0, "delete", 0, 0).due(0, "merge", 0);
        x.due(3, "type", 2, 0, 7).due(0, "merge", 2).textIs("3 1");
        x.due(0, "merge", 1).textIs("3 2 1").due(4, "type", 3, 0, 7).due(0, "merge", 3).textIs("4 3 2 1");
    }

    private static void rightBehindItsAnchor() {
        Play x = Play.withWords("4: right behind its anchor", 2);
        x.due(0, "merge", 1).due(0, "merge", 2).due(2, "type", 1, 1, 7).due(3, "type", 1, 2, 7).due(4, "type", 2, 1, 7);
        x.due(5, "type", 1, 4, 7).due(6, "type", 2, 3, 7).due(0, "merge", 1).textIs("0 2 3 1 5");
        x.due(0, "merge", 2).textIs("0 4 2 3 1 6 5").copyIs(2, "0 4 2 3 1 6 5").copyIs(1, "0 2 3 1 5");
    }

    private static void behindAnAnchorThatIsDeleted() {
        Play x = Play.withWords("4: deleted ones keep their places in the row", 4);
        x.due(0, "merge", 1).due(0, "merge", 2).due(4, "type", 1, 2, 7).due(5, "type", 2, 3, 7);
        x.due(1, "delete", 0, 1).due(2, "delete", 0, 1).due(0, "merge", 0).textIs("0 3");
        x.due(0, "merge", 2).textIs("0 5 3").due(0, "merge", 1).textIs("0 4 5 3");
        x.due(6, "type", 0, 1, 7).due(0, "merge", 0).textIs("0 6 4 5 3");
    }

    private static void changesAreDoneInTheirOrder() {
        Play x = Play.withWords("4: the changes are done in their order", 1);
        x.due(1, "type", 0, 1, 7).due(2, "type", 0, 2, 7).due(1, "delete", 0, 1).due(3, "type", 0, 1, 7);
        x.copyIs(0, "0 3 2").due(0, "merge", 0).textIs("0 3 2").due(NONE, "placeOf", 1).due(4, "type", 0, 1, 7);
        x.due(4, "delete", 0, 1).due(0, "merge", 0).textIs("0 3 2").due(3, "share", 0).due(3, "shareAnew", 0);
    }

    private static void refusedBetweenTwoWordsOfAReview() {
        Play x = Play.withWords("4: refused between two words that are frozen by the same review", 4);
        x.due(0, "merge", 1).due(0, "order", 0, 1, 2).due(4, "type", 1, 2, 7).due(1, "merge", 1).textIs("0 1 2 3");
        x.copyIs(1, "0 1 2 3").due(NONE, "placeOf", 4).due(1007, "word", 4).due(NONE, "frozenBy", 4);
        x.due(0, "share", 1).due(0, "shareAnew", 1).due(0, "changes", 1);
    }

    private static void notRefusedAtTheBordersOfAReview() {
        Play x = Play.withWords("4: not refused right ahead of it and right behind it", 4);
        x.due(0, "merge", 1).due(0, "order", 0, 1, 2).due(4, "type", 1, 1, 7).due(5, "type", 1, 4, 7);
        x.due(0, "merge", 1).textIs("0 4 1 2 5 3");

        Play y = Play.withWords("4: not refused at the ends of the text", 2);
        y.due(0, "merge", 1).due(0, "order", 0, 0, 1).due(2, "type", 1, 0, 7).due(3, "type", 1, 3, 7);
        y.due(0, "merge", 1).textIs("2 0 1 3");
    }

    private static void notRefusedBetweenTwoReviews() {
        Play x = Play.withWords("4: not refused between words of two reviews", 4);
        x.due(0, "merge", 1).due(0, "order", 0, 0, 1).due(1, "order", 0, 2, 3).due(4, "type", 1, 2, 7);
        x.due(5, "type", 1, 1, 7).due(6, "type", 1, 5, 7).due(2, "merge", 1).textIs("0 1 4 2 3");
    }

    private static void notRefusedAroundAReviewOfOneWord() {
        Play x = Play.withWords("4: not refused around a review of one word", 1);
        x.due(0, "merge", 1).due(0, "order", 0, 0, 0).due(1, "type", 1, 0, 7).due(2, "type", 1, 2, 7);
        x.due(0, "merge", 1).textIs("1 0 2");
    }

    private static void refusedAroundDeletedWordsOfAReview() {
        Play x = Play.withWords("4: refused if deleted words alone lie between", 4);
        x.due(0, "merge", 1).due(0, "merge", 2).due(1, "delete", 0, 1).due(2, "delete", 0, 1).due(0, "merge", 0);
        x.due(0, "order", 0, 0, 1).due(4, "type", 1, 1, 7).due(5, "type", 1, 3, 7).due(6, "type", 1, 5, 7);
        x.copyIs(1, "0 4 1 5 2 6 3").due(3, "merge", 1).textIs("0 3").copyIs(1, "0 3");
        x.due(2, "cancel", 0).due(7, "type", 2, 2, 7).due(0, "merge", 2).textIs("0 7 3");
    }

    private static void notRefusedBehindDeletedWordsAtTheBorders() {
        Play x = Play.withWords("4: not refused at the borders where deleted words lie", 6);
        x.due(0, "merge", 1).due(0, "delete", 0, 0).due(1, "delete", 0, 0).due(4, "delete", 0, 2);
        x.due(5, "delete", 0, 2).due(0, "merge", 0).textIs("2 3").due(0, "order", 0, 0, 1);
        x.due(6, "type", 1, 1, 7).due(7, "type", 1, 3, 7).due(8, "type", 1, 7, 7).due(9, "type", 1, 9, 7);
        x.copyIs(1, "0 6 1 7 2 3 4 8 5 9").due(0, "merge", 1).textIs("6 7 2 3 8 9");
    }

    private static void refusedEverywhereInsideOfAReviewOfAll() {
        Play x = Play.withWords("4: a review of the whole text", 100);
        x.due(0, "merge", 1).due(0, "order", 0, 0, 99);
        for (int i = 0; i <= 100; i++) {
            x.due(100 + i, "type", 1, 2 * i, 7);
        }
        x.due(201, "copy", 1).due(99, "merge", 1).due(102, "length").due(102, "copy", 1).due(0, "placeOf", 100);
        x.due(NONE, "placeOf", 101).due(NONE, "placeOf", 199).due(101, "placeOf", 200).due(2, "share", 1);
    }

    private static void refusedAsLongAsAReviewFreezes() {
        Play x = Play.withWords("4: refused as long as the review freezes", 2);
        x.due(0, "merge", 1).due(2, "type", 1, 1, 7).due(0, "order", 0, 0, 1).due(1, "merge", 1);
        x.due(2, "finish", 0, 9).due(3, "type", 1, 1, 7).due(0, "delete", 1, 0).due(2, "merge", 1).textIs("0 1");
        x.due(0, "addIssue", 1, 2).due(4, "type", 1, 1, 7).due(2, "pass", 1).due(0, "merge", 1).textIs("0 4 1");
        x.due(1, "order", 0, 0, 2).due(5, "type", 1, 1, 7).due(3, "cancel", 1).due(0, "merge", 1).textIs("0 5 4 1");
    }

    private static void anchorOfARefusedAnchor() {
        Play x = Play.withWords("4: the anchor of a refused anchor takes its place", 3);
        x.due(0, "merge", 1).due(0, "order", 0, 1, 2).due(3, "type", 1, 2, 7).due(4, "type", 1, 3, 7);
        x.due(5, "type", 1, 0, 7).due(6, "type", 1, 1, 7).copyIs(1, "5 6 0 1 3 4 2");
        x.due(2, "merge", 1).textIs("5 6 0 1 2").due(NONE, "placeOf", 3).due(NONE, "placeOf", 4);

        Play y = Play.withWords("4: the refused anchor is taken out of the copy again", 2);
        y.due(0, "merge", 1).due(0, "order", 0, 0, 1).due(2, "type", 1, 1, 7).due(3, "type", 1, 2, 7);
        y.due(2, "delete", 1, 1).copyIs(1, "0 3 1").due(2, "merge", 1).textIs("0 1");

        Play z = Play.withWords("4: behind a deleted anchor of a refused one", 3);
        z.due(0, "merge", 1).due(1, "delete", 0, 1).due(0, "merge", 0).due(0, "order", 0, 0, 1);
        z.due(3, "type", 1, 2, 7).due(4, "type", 1, 3, 7).copyIs(1, "0 1 3 4 2").due(2, "merge", 1).textIs("0 2");
    }

    private static void aChainOfRefusedAnchorsOfAllWords() {
        Play x = Play.withWords("4: and so on", 2).due(0, "merge", 1).due(0, "order", 0, 0, 1);
        for (int i = 0; i < 298; i++) {
            x.due(2 + i, "type", 1, 1 + i, 7);
        }
        x.due(298, "merge", 1).textIs("0 1").copyIs(1, "0 1").due(2, "cancel", 0).due(0, "merge", 1).textIs("0 1");
    }

    private static void deletingFrozenWordsIsRefused() {
        Play x = Play.withWords("4: deleting is refused if the word is frozen", 5);
        x.due(0, "merge", 1).due(0, "order", 0, 1, 3).due(1, "delete", 1, 1).due(1, "merge", 1).textIs("0 1 2 3 4");
        x.due(2, "delete", 1, 2).due(1, "merge", 1).due(3, "delete", 1, 3).due(1, "merge", 1).textIs("0 1 2 3 4");
        x.copyIs(1, "0 1 2 3 4").due(1, "delete", 1, 1).due(2, "delete", 1, 1).due(3, "delete", 1, 1);
        x.due(3, "merge", 1).copyIs(1, "0 1 2 3 4").due(5, "share", 0).due(5, "shareAnew", 0);
        x.due(2, "delete", 0, 2).due(3, "cancel", 0).due(0, "merge", 0).textIs("0 1 3 4");
    }

    private static void deletingWordsBesideFrozenOnesIsNot() {
        Play x = Play.withWords("4: deleting is not refused beside frozen words", 5);
        x.due(0, "merge", 1).due(0, "order", 0, 1, 3).due(0, "delete", 1, 0).due(4, "delete", 1, 3);
        x.due(0, "merge", 1).textIs("1 2 3").due(3, "shareAnew", 0);
    }

    private static void deletingWhatIsDeletedIsNoRefusal() {
        Play x = Play.withWords("4: unless it is deleted already", 3);
        x.due(0, "merge", 1).due(0, "merge", 2).due(1, "delete", 0, 1).due(1, "delete", 1, 1).due(1, "delete", 2, 1);
        x.due(0, "merge", 0).textIs("0 2").due(0, "merge", 1).textIs("0 2").due(0, "order", 0, 0, 1);
        x.due(0, "merge", 2).textIs("0 2").due(2, "share", 0).due(2, "shareAnew", 0);
    }

    private static void deletingWhatDidNotComeInIsNoRefusal() {
        Play x = Play.withWords("4: or did not come into the draft", 2);
        x.due(0, "merge", 1).due(0, "order", 0, 0, 1).due(2, "type", 1, 1, 7).due(2, "delete", 1, 1);
        x.due(2, "changes", 1).due(1, "merge", 1).textIs("0 1").due(NONE, "placeOf", 2);
        x.due(0, "share", 1).due(0, "shareAnew", 1);
    }

    private static void refusalsAreCounted() {
        Play x = Play.withWords("4: how many of them are refused", 4);
        x.due(0, "merge", 1).due(0, "order", 0, 0, 1).due(1, "order", 1, 2, 3);
        x.due(4, "type", 1, 1, 7).due(5, "type", 1, 3, 7).due(0, "delete", 1, 0).due(4, "delete", 1, 0);
        x.due(6, "type", 1, 0, 7).due(7, "type", 1, 4, 7).copyIs(1, "6 1 5 2 7 3");
        x.due(6, "changes", 1).due(3, "merge", 1).textIs("6 0 1 5 2 3").due(6, "copy", 1);
        x.due(2, "share", 1).due(2, "shareAnew", 1).due(4, "shareAnew", 0);
    }
}
