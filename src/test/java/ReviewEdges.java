/** Promises 14 to 20: each sentence that names a boundary case has a test of its own. */
final class ReviewEdges {
    private static final int NONE = DraftCommon.NONE;
    private static final int ORDERED = DraftCommon.ORDERED, DONE = DraftCommon.DONE;
    private static final int CANCELLED = DraftCommon.CANCELLED, PRINTED = DraftCommon.PRINTED;

    private ReviewEdges() {
    }

    static void run() {
        setRateTakesReviewers0To3();
        setRateTakesRates0To100();
        setRateThrowsTheFirstOfItsExceptions();
        orderTakesReviewers0To3();
        orderTakesPlacesOfTheText();
        orderTakesToFromFromOn();
        orderOfNoneAndOfAll();
        orderRefusesFrozenWords();
        orderTakesWordsThatAreFreeAgain();
        orderTakes30Reviews();
        orderCountsReviewsOfAllStates();
        orderThrowsTheFirstOfItsExceptions();
        orderRefusedChangesNothing();
        orderPaysByTheRateOfThen();
        orderOfWordsWhoseNumbersAreNotTheirPlaces();
        finishTakesReviews();
        finishTakesUrgencies0To9();
        finishTakesOrderedOnes();
        finishThrowsTheFirstOfItsExceptions();
        finishRefusedChangesNothing();
        finishEarnsNothingAndMost();
        cancelTakesReviews();
        cancelTakesOrderedOnes();
        cancelFreesOneAndAll();
        stateOfTakesReviews();
        stateOfEachState();
        frozenByTakesNumbersOfWords();
        frozenByIsNoneIfNoReviewFreezesIt();
        frozenByTheFirstAndTheLastReview();
        earnedTakesReviewers0To3();
        earnedOfNoneAndOfMany();
    }

    // ---- 14: setRate

    private static void setRateTakesReviewers0To3() {
        Play x = Play.begin("14: reviewer, 0 to 3").noPlaceFrom(4, 0, "setRate", 0, 7);
        x.due(1, "setRate", 0, 7).due(1, "setRate", 3, 8).noPlaceFrom(4, 0, "setRate", 0, 9);
        x.due(7, "setRate", 0, 1).due(1, "setRate", 1, 1).due(1, "setRate", 2, 1).due(8, "setRate", 3, 1);
    }

    private static void setRateTakesRates0To100() {
        Play x = Play.begin("14: rate, 0 to 100").noArgumentOutside(0, 100, 1, "setRate", 2, 5);
        x.due(1, "setRate", 2, 0).noArgumentOutside(0, 100, 1, "setRate", 2, 5).due(0, "setRate", 2, 100);
        x.noArgumentOutside(0, 100, 1, "setRate", 2, 5).due(100, "setRate", 2, 100).due(100, "setRate", 2, 1);
    }

    private static void setRateThrowsTheFirstOfItsExceptions() {
        Play x = Play.begin("14: the first of its exceptions").noPlace("setRate", 4, 101).noPlace("setRate", -1, -1);
        x.noArgument("setRate", 3, 101).noArgument("setRate", 0, -1).due(1, "setRate", 3, 2).due(1, "setRate", 0, 2);
    }

    // ---- 15: order

    private static void orderTakesReviewers0To3() {
        Play x = Play.withWords("15: reviewer, 0 to 3", 3).noPlaceFrom(4, 0, "order", 0, 0, 0);
        x.due(0, "order", 0, 0, 0).due(1, "order", 3, 1, 1).noPlaceFrom(4, 0, "order", 0, 2, 2);
        x.due(1, "finish", 0, 0).due(1, "finish", 1, 0).due(1, "earned", 3).due(1, "earned", 0);
    }

    private static void orderTakesPlacesOfTheText() {
        Play x = Play.withWords("15: places of the text", 4).due(4, "type", 0, 4, 7);
        x.noPlaceFrom(4, 1, "order", 1, 0, 3).noPlaceFrom(4, 2, "order", 1, 0, 0).noPlace("order", 1, 4, 4);
        x.noPlace("order", 1, -1, -1).due(0, "order", 1, 0, 0).due(1, "order", 1, 3, 3).due(2, "order", 1, 1, 2);
        x.due(0, "merge", 0).due(3, "order", 1, 4, 4).noPlace("order", 1, 5, 5);
    }

    private static void orderTakesToFromFromOn() {
        Play x = Play.withWords("15: to, from or behind it", 4).noArgument("order", 1, 1, 0)
                .noArgument("order", 1, 3, 2);
        x.noArgument("order", 1, 3, 0).due(0, "order", 1, 1, 1).due(1, "order", 1, 2, 3).due(1, "cancel", 0);
        x.due(2, "cancel", 1).due(2, "order", 1, 0, 3).due(4, "cancel", 2);
    }

    private static void orderOfNoneAndOfAll() {
        Play.begin("15: an empty text").noPlace("order", 0, 0, 0).due(0, "type", 0, 0, 7).noPlace("order", 0, 0, 0);
        Play x = Play.withWords("15: all of 300 words", 300).noPlace("order", 0, 0, 300).due(0, "order", 0, 0, 299);
        x.due(0, "frozenBy", 0).due(0, "frozenBy", 299).noState("order", 0, 0, 0).noState("order", 0, 299, 299);
        x.due(300, "finish", 0, 0).noState("order", 0, 0, 299);
    }

    private static void orderRefusesFrozenWords() {
        Play x = Play.withWords("15: one of the words is frozen", 7).due(0, "order", 0, 2, 4);
        x.noState("order", 1, 0, 2).noState("order", 1, 2, 2).noState("order", 1, 3, 3).noState("order", 1, 4, 4);
        x.noState("order", 1, 4, 6).noState("order", 1, 0, 6).noState("order", 0, 2, 4).noState("order", 1, 1, 5);
        x.due(1, "order", 1, 0, 1).due(2, "order", 1, 5, 6).noState("order", 1, 1, 1).noState("order", 1, 5, 5);
        x.due(NONE, "waiting", 0).due(3, "cancel", 0).due(3, "order", 1, 2, 4);
    }

    private static void orderTakesWordsThatAreFreeAgain() {
        Play x = Play.withWords("15: words that are frozen no more", 2).due(0, "order", 0, 0, 1).due(2, "cancel", 0);
        x.due(1, "order", 0, 0, 1).due(2, "finish", 1, 0).noState("order", 0, 0, 0).due(0, "addIssue", 1, 2);
        x.noState("order", 0, 1, 1).due(2, "pass", 1).due(2, "order", 0, 0, 1);
    }

    private static void orderTakes30Reviews() {
        Play x = Play.withWords("15: 30 reviews", 31);
        for (int i = 0; i < 30; i++) {
            x.due(i, "order", i % 4, i, i);
        }
        x.noState("order", 0, 30, 30).due(NONE, "frozenBy", 30).noPlace("stateOf", 30).due(29, "frozenBy", 29);
        x.due(ORDERED, "stateOf", 29).due(1, "finish", 29, 0).due(29, "waiting", 0).due(NONE, "waiting", 1);
    }

    private static void orderCountsReviewsOfAllStates() {
        Play x = Play.withWords("15: 30 reviews, whatever their states are", 2);
        for (int i = 0; i < 29; i++) {
            x.due(i, "order", 0, 0, 1).due(2, "cancel", i);
        }
        x.due(29, "order", 0, 0, 0).noState("order", 0, 1, 1).due(1, "finish", 29, 0).noState("order", 0, 1, 1);
        x.due(0, "addIssue", 1, 1).due(1, "pass", 1).noState("order", 0, 1, 1).noState("order", 0, 0, 0);
        x.due(NONE, "frozenBy", 1).due(PRINTED, "stateOf", 29).noPlace("stateOf", 30);
    }

    private static void orderThrowsTheFirstOfItsExceptions() {
        Play x = Play.withWords("15: the first of its exceptions", 3).due(0, "order", 0, 0, 2);
        x.noPlace("order", 4, 1, 0).noPlace("order", -1, 0, 0).noPlace("order", 0, 3, 1).noPlace("order", 0, 1, -1);
        x.noPlace("order", 0, 3, 3).noPlace("order", 0, 0, 3).noPlace("order", 4, 3, -1).noPlace("order", 0, 4, 3);
        x.noArgument("order", 0, 1, 0).noArgument("order", 0, 2, 0).noState("order", 0, 1, 1);

        Play y = Play.withWords("15: the first of its exceptions, with 30 reviews", 2);
        for (int i = 0; i < 30; i++) {
            y.due(i, "order", 0, 0, 1).due(2, "cancel", i);
        }
        y.noState("order", 0, 0, 1).noPlace("order", 4, 0, 1).noPlace("order", 0, 0, 2).noPlace("order", 0, -1, 0);
        y.noPlace("order", 0, 2, 1).noArgument("order", 0, 1, 0);
    }

    private static void orderRefusedChangesNothing() {
        Play x = Play.withWords("15: a refused call", 4).due(0, "order", 0, 1, 1).noState("order", 1, 0, 3);
        x.due(NONE, "frozenBy", 0).due(0, "frozenBy", 1).due(NONE, "frozenBy", 2).due(NONE, "frozenBy", 3);
        x.noArgument("order", 1, 3, 2).noPlace("order", 1, 2, 4).due(NONE, "frozenBy", 2).due(NONE, "frozenBy", 3);
        x.noPlace("stateOf", 1).due(0, "delete", 0, 0).due(2, "delete", 0, 1).due(0, "merge", 0).textIs("1 3");
        x.due(1, "order", 1, 1, 1).due(0, "earned", 1).due(1, "finish", 1, 0);
    }

    private static void orderPaysByTheRateOfThen() {
        Play x = Play.withWords("15: times the rate of then", 6).due(0, "order", 2, 0, 0).due(1, "setRate", 2, 0);
        x.due(1, "order", 2, 1, 2).due(0, "setRate", 2, 100).due(2, "order", 2, 3, 5).due(100, "setRate", 2, 50);
        x.due(0, "finish", 1, 0).due(300, "finish", 2, 0).due(301, "finish", 0, 0).due(0, "earned", 1);
    }

    private static void orderOfWordsWhoseNumbersAreNotTheirPlaces() {
        Play x = Play.withWordsBackwards("15: words of the span", 5).due(0, "order", 0, 0, 1).due(1, "order", 1, 3, 3);
        x.due(0, "frozenBy", 4).due(0, "frozenBy", 3).due(NONE, "frozenBy", 2).due(1, "frozenBy", 1);
        x.due(NONE, "frozenBy", 0).due(0, "merge", 1).due(5, "type", 1, 1, 7).due(6, "type", 1, 3, 7);
        x.due(3, "delete", 1, 2).due(0, "delete", 1, 5).due(2, "merge", 1).textIs("4 3 6 2 1");
        x.due(2, "cancel", 0).due(NONE, "frozenBy", 4).due(1, "frozenBy", 1).noState("order", 0, 2, 4);
        x.due(2, "order", 0, 0, 3).due(2, "frozenBy", 6).due(4, "cancel", 2);
    }

    // ---- 16: finish

    private static void finishTakesReviews() {
        Play x = Play.withWords("16: a review", 2).noPlaceFrom(0, 0, "finish", 0, 5).due(0, "order", 0, 0, 0);
        x.noPlaceFrom(1, 0, "finish", 0, 5).due(1, "order", 1, 1, 1).noPlaceFrom(2, 0, "finish", 0, 5);
        x.due(1, "finish", 1, 5).due(1, "finish", 0, 5).noPlaceFrom(2, 0, "finish", 0, 5);
    }

    private static void finishTakesUrgencies0To9() {
        Play x = Play.withWords("16: urgency, 0 to 9", 3).due(0, "order", 0, 0, 0).due(1, "order", 0, 1, 1);
        x.noArgumentOutside(0, 9, 1, "finish", 0, 5).due(1, "finish", 0, 0);
        x.noArgumentOutside(0, 9, 1, "finish", 1, 5).due(2, "finish", 1, 9).due(1, "waiting", 0).due(0, "waiting", 1);
    }

    private static void finishTakesOrderedOnes() {
        Play x = Play.withWords("16: if it is not ORDERED", 3).due(0, "order", 0, 0, 0).due(1, "order", 0, 1, 1);
        x.due(1, "cancel", 0).noState("finish", 0, 5).due(1, "finish", 1, 5).noState("finish", 1, 5);
        x.noState("finish", 1, 6).due(0, "addIssue", 1, 1).due(1, "pass", 1).noState("finish", 1, 5);
        x.noState("finish", 0, 5).due(1, "earned", 0).due(NONE, "waiting", 0);
    }

    private static void finishThrowsTheFirstOfItsExceptions() {
        Play x = Play.withWords("16: the first of its exceptions", 2).due(0, "order", 0, 0, 0);
        x.noPlace("finish", 1, 10).noPlace("finish", -1, -1).due(1, "cancel", 0).noArgument("finish", 0, 10);
        x.noArgument("finish", 0, -1).noState("finish", 0, 9).noPlace("finish", 1, 5).due(1, "order", 0, 0, 0);
        x.due(1, "finish", 1, 0).noArgument("finish", 1, 10).noState("finish", 1, 0).noPlace("finish", 2, 10);
    }

    private static void finishRefusedChangesNothing() {
        Play x = Play.withWords("16: a refused call", 3).due(0, "order", 0, 0, 1).due(1, "order", 0, 2, 2);
        x.noArgument("finish", 0, 10).noPlace("finish", 2, 5).due(ORDERED, "stateOf", 0).due(0, "earned", 0);
        x.due(NONE, "waiting", 0).due(1, "finish", 1, 3).noState("finish", 1, 9).due(1, "earned", 0);
        x.due(3, "finish", 0, 4).due(0, "waiting", 0).due(1, "waiting", 1).due(NONE, "waiting", 2);
    }

    private static void finishEarnsNothingAndMost() {
        Play x = Play.withWords("16: what its reviewer has earned in all", 300).due(1, "setRate", 3, 100);
        x.due(0, "order", 3, 0, 299).due(30000, "finish", 0, 0).due(30000, "earned", 3).due(0, "addIssue", 1, 200);
        x.due(0, "pass", 1).due(DONE, "stateOf", 0);

        Play y = Play.withWords("16: for nothing", 2).due(1, "setRate", 0, 0).due(0, "order", 0, 0, 0);
        y.due(0, "finish", 0, 0).due(DONE, "stateOf", 0).due(0, "waiting", 0).due(0, "earned", 0);
    }

    // ---- 17: cancel

    private static void cancelTakesReviews() {
        Play x = Play.withWords("17: a review", 2).noPlaceFrom(0, 0, "cancel", 0).due(0, "order", 0, 0, 0);
        x.noPlaceFrom(1, 0, "cancel", 0).due(1, "order", 1, 1, 1).noPlaceFrom(2, 0, "cancel", 0);
        x.due(1, "cancel", 1).due(1, "cancel", 0).noPlaceFrom(2, 0, "cancel", 0);
    }

    private static void cancelTakesOrderedOnes() {
        Play x = Play.withWords("17: if it is not ORDERED", 3).due(0, "order", 0, 0, 0).due(1, "order", 0, 1, 2);
        x.due(1, "cancel", 0).noState("cancel", 0).due(2, "finish", 1, 5).noState("cancel", 1);
        x.due(1, "frozenBy", 1).due(1, "frozenBy", 2).due(1, "waiting", 0).due(2, "earned", 0).due(0, "addIssue", 1, 9);
        x.due(2, "pass", 1).noState("cancel", 1).due(PRINTED, "stateOf", 1).due(CANCELLED, "stateOf", 0);
        x.due(2, "order", 0, 1, 1).noState("cancel", 1).noState("cancel", 0).due(2, "frozenBy", 1);
    }

    private static void cancelFreesOneAndAll() {
        Play x = Play.withWords("17: how many words are not frozen any more", 300).due(0, "order", 0, 299, 299);
        x.due(1, "order", 0, 0, 298).due(1, "cancel", 0).due(NONE, "frozenBy", 299).due(1, "frozenBy", 298);
        x.due(299, "cancel", 1).due(NONE, "frozenBy", 298).due(2, "order", 0, 0, 299).due(300, "cancel", 2);
        x.due(0, "earned", 0).due(NONE, "waiting", 0);
    }

    // ---- 18: stateOf

    private static void stateOfTakesReviews() {
        Play x = Play.withWords("18: a review", 1).noPlaceFrom(0, 0, "stateOf", 0).due(0, "order", 0, 0, 0);
        x.due(ORDERED, "stateOf", 0).noPlaceFrom(1, 0, "stateOf", 0);
        for (int i = 1; i < 30; i++) {
            x.due(1, "cancel", i - 1).due(i, "order", 0, 0, 0);
        }
        x.due(ORDERED, "stateOf", 29).due(CANCELLED, "stateOf", 28).due(CANCELLED, "stateOf", 0);
        x.noPlaceFrom(30, 0, "stateOf", 0);
    }

    private static void stateOfEachState() {
        Play x = Play.withWords("18: ORDERED, DONE, CANCELLED or PRINTED", 4);
        for (int i = 0; i < 4; i++) {
            x.due(i, "order", 0, i, i);
        }
        x.due(1, "cancel", 2).due(1, "finish", 3, 9).due(2, "finish", 1, 8).due(0, "addIssue", 1, 1).due(1, "pass", 1);
        x.due(0, "stateOf", 0).due(1, "stateOf", 1).due(2, "stateOf", 2).due(3, "stateOf", 3);
    }

    // ---- 19: frozenBy

    private static void frozenByTakesNumbersOfWords() {
        Play x = Play.begin("19: the number of a word").noPlaceFrom(0, 0, "frozenBy", 0).due(0, "type", 0, 0, 7);
        x.noPlaceFrom(1, 0, "frozenBy", 0).due(NONE, "frozenBy", 0);

        Play y = Play.withWords("19: the number of a word, of 300", 300).noPlaceFrom(300, 0, "frozenBy", 0);
        y.due(0, "order", 0, 299, 299).due(0, "frozenBy", 299).due(NONE, "frozenBy", 298).due(NONE, "frozenBy", 0);
    }

    private static void frozenByIsNoneIfNoReviewFreezesIt() {
        Play x = Play.withWords("19: NONE", 5).due(0, "merge", 1).due(0, "order", 0, 1, 2).due(5, "type", 1, 2, 7);
        x.due(NONE, "frozenBy", 5).due(0, "delete", 1, 0).due(1, "merge", 1).due(NONE, "frozenBy", 5);
        x.due(NONE, "frozenBy", 0).due(0, "frozenBy", 1).due(0, "frozenBy", 2).due(NONE, "frozenBy", 3);
        x.due(2, "finish", 0, 0).due(0, "frozenBy", 1).due(0, "frozenBy", 2).due(0, "addIssue", 1, 2);
        x.due(2, "pass", 1).due(NONE, "frozenBy", 1).due(NONE, "frozenBy", 2).due(1, "order", 0, 3, 3);
        x.due(1, "frozenBy", 4).due(1, "cancel", 1).due(NONE, "frozenBy", 4);
    }

    private static void frozenByTheFirstAndTheLastReview() {
        Play x = Play.withWords("19: review 0, and review 29", 30);
        for (int i = 0; i < 30; i++) {
            x.due(i, "order", 0, 29 - i, 29 - i);
        }
        x.due(0, "frozenBy", 29).due(29, "frozenBy", 0).due(1, "cancel", 0).due(1, "cancel", 29);
        x.due(NONE, "frozenBy", 29).due(NONE, "frozenBy", 0).due(1, "frozenBy", 28).due(28, "frozenBy", 1);
    }

    // ---- 20: earned

    private static void earnedTakesReviewers0To3() {
        Play x = Play.withWords("20: reviewer, 0 to 3", 3).noPlaceFrom(4, 0, "earned", 0).due(0, "order", 0, 0, 0);
        x.due(1, "order", 3, 1, 2).due(1, "finish", 0, 0).due(2, "finish", 1, 0).due(1, "earned", 0);
        x.due(0, "earned", 1).due(0, "earned", 2).due(2, "earned", 3).noPlaceFrom(4, 0, "earned", 0);
    }

    private static void earnedOfNoneAndOfMany() {
        Play x = Play.withWords("20: none, and of 30 reviews", 60).due(0, "earned", 2).due(1, "setRate", 2, 100);
        for (int i = 0; i < 30; i++) {
            x.due(i, "order", 2, 2 * i, 2 * i + 1).due(200 * i, "earned", 2).due(200 * i + 200, "finish", i, i % 10);
        }
        x.due(6000, "earned", 2).due(0, "earned", 1).due(0, "addIssue", 1, 200).due(60, "pass", 1);
        x.due(6000, "earned", 2).due(300, "royalties", 0);

        Play y = Play.withWords("20: not by a cancelled one", 2).due(0, "order", 1, 0, 1).due(0, "earned", 1);
        y.due(2, "cancel", 0).due(0, "earned", 1);
    }
}
