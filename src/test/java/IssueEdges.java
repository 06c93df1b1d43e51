/** Promises 21 to 26: each sentence that names a boundary case has a test of its own. */
final class IssueEdges {
    private static final int NONE = DraftCommon.NONE;
    private static final int DONE = DraftCommon.DONE, PRINTED = DraftCommon.PRINTED;

    private IssueEdges() {
    }

    static void run() {
        addIssueTakesDaysLaterThanTodayUpTo1000();
        addIssueTakesDaysLaterThanTodayAsItMoves();
        addIssueOnTheLastDays();
        addIssueTakesRoomFor1To200Words();
        addIssueTakes12();
        addIssueTakesADayOnce();
        addIssueThrowsTheFirstOfItsExceptions();
        addIssueRefusedChangesNothing();
        waitingTakesPlacesFrom0On();
        waitingIsNoneIfNotSoManyWait();
        waitingByUrgencyAndThenByTheOrderOfFinishing();
        waitingOf30();
        passTakes1To100Days();
        passUpTo1000();
        passThrowsTheFirstOfItsExceptions();
        passRefusedChangesNothing();
        passPrintsWhenTodayComesToTheDay();
        passPrintsSeveralIssues();
        printingTakesWhatHasRoom();
        printingEndsAtTheFirstThatHasNone();
        printingOfNoneAndOfAll();
        printingOf30Reviews();
        todayFirstAndLast();
        printedTakesIssues();
        printedIsNoneUntilItIsPrinted();
        royaltiesTakesWriters0To5();
        royaltiesOfNoneAndOfMany();
        royaltiesOfWordsWhoseNumbersAreNotTheirPlaces();
    }

    // ---- 21: addIssue

    private static void addIssueTakesDaysLaterThanTodayUpTo1000() {
        Play x = Play.begin("21: day, later than today, up to 1000").noArgumentOutside(1, 1000, 0, "addIssue", 0, 5);
        x.due(0, "addIssue", 1, 5).due(1, "addIssue", 1000, 5).noArgumentOutside(1, 1000, 0, "addIssue", 0, 5);
        x.due(2, "addIssue", 2, 5).due(3, "addIssue", 999, 5);
    }

    private static void addIssueTakesDaysLaterThanTodayAsItMoves() {
        Play x = Play.begin("21: later than today").due(0, "addIssue", 7, 5).due(0, "pass", 7).due(7, "today");
        x.noArgumentOutside(8, 1000, 0, "addIssue", 0, 5).noArgument("addIssue", 1, 5).due(1, "addIssue", 8, 5);
        x.due(0, "pass", 1).noArgument("addIssue", 8, 5).noArgument("addIssue", 7, 5).due(2, "addIssue", 9, 5);
    }

    private static void addIssueOnTheLastDays() {
        Play x = Play.begin("21: up to 1000");
        for (int i = 0; i < 9; i++) {
            x.due(0, "pass", 100);
        }
        x.due(0, "pass", 99).noArgument("addIssue", 999, 5).noArgument("addIssue", 1001, 5).due(0, "addIssue", 1000, 5);
        x.noState("addIssue", 1000, 5).due(0, "pass", 1).noArgument("addIssue", 1000, 5)
                .noArgument("addIssue", 1001, 5);
        x.due(0, "printed", 0).noPlace("printed", 1);
    }

    private static void addIssueTakesRoomFor1To200Words() {
        Play x = Play.withWords("21: room, 1 to 200 words", 201).noArgumentOutside(1, 200, 1, "addIssue", 3, 5);
        x.due(0, "addIssue", 1, 1).due(1, "addIssue", 2, 200).due(2, "addIssue", 3, 200);
        x.noArgumentOutside(1, 200, 1, "addIssue", 4, 5).due(0, "order", 0, 0, 0).due(1, "order", 0, 1, 200);
        x.due(1, "finish", 0, 9).due(201, "finish", 1, 0).due(1, "pass", 1).due(1, "printed", 0);
        x.due(200, "pass", 1).due(200, "printed", 1);
    }

    private static void addIssueTakes12() {
        Play x = Play.begin("21: 12 issues");
        for (int i = 0; i < 12; i++) {
            x.due(i, "addIssue", 12 - i, 1);
        }
        x.noState("addIssue", 13, 1).noState("addIssue", 1000, 200).noPlace("printed", 12).due(NONE, "printed", 11);
        x.due(0, "pass", 20).noState("addIssue", 21, 1).noPlace("printed", 12).due(0, "printed", 11);
    }

    private static void addIssueTakesADayOnce() {
        Play x = Play.begin("21: one has this day").due(0, "addIssue", 1, 1).due(1, "addIssue", 1000, 200);
        x.noState("addIssue", 1, 1).noState("addIssue", 1, 200).noState("addIssue", 1000, 1).due(2, "addIssue", 2, 1);
        x.due(3, "addIssue", 999, 1).noState("addIssue", 999, 1).noState("addIssue", 2, 2);
    }

    private static void addIssueThrowsTheFirstOfItsExceptions() {
        Play x = Play.begin("21: the first of its exceptions").due(0, "addIssue", 5, 5).noArgument("addIssue", 5, 0);
        x.noArgument("addIssue", 5, 201).due(1, "addIssue", 3, 5).due(0, "pass", 3).noArgument("addIssue", 3, 5);
        for (int i = 2; i < 12; i++) {
            x.due(i, "addIssue", 20 + i, 5);
        }
        x.noArgument("addIssue", 3, 5).noArgument("addIssue", 1001, 5).noArgument("addIssue", 50, 0);
        x.noArgument("addIssue", 50, 201).noArgument("addIssue", 5, 0).noState("addIssue", 5, 5)
                .noState("addIssue", 50, 5);
    }

    private static void addIssueRefusedChangesNothing() {
        Play x = Play.withWords("21: a refused call", 3).due(0, "order", 0, 0, 2).due(3, "finish", 0, 0);
        x.due(0, "addIssue", 2, 2).noState("addIssue", 2, 200).noArgument("addIssue", 1, 201)
                .noArgument("addIssue", 1, 0);
        x.noPlace("printed", 1).due(0, "pass", 2).due(0, "printed", 0).due(1, "addIssue", 3, 3).due(3, "pass", 1);
    }

    // ---- 22: waiting

    private static void waitingTakesPlacesFrom0On() {
        Play x = Play.withWords("22: place, not below 0", 1).due(NONE, "waiting", 0).due(NONE, "waiting", 1);
        x.noArgument("waiting", -1).noArgument("waiting", Integer.MIN_VALUE).due(NONE, "waiting", Integer.MAX_VALUE);
        x.due(0, "order", 0, 0, 0).due(1, "finish", 0, 0).noArgument("waiting", -1).noArgument("waiting", -2);
        x.noArgument("waiting", Integer.MIN_VALUE).due(0, "waiting", 0).due(NONE, "waiting", 1);
        x.due(NONE, "waiting", Integer.MAX_VALUE);
    }

    private static void waitingIsNoneIfNotSoManyWait() {
        Play x = Play.withWords("22: NONE if not so many wait", 4);
        for (int i = 0; i < 4; i++) {
            x.due(i, "order", 0, i, i);
        }
        x.due(NONE, "waiting", 0).due(1, "finish", 2, 0).due(2, "waiting", 0).due(NONE, "waiting", 1);
        x.due(2, "finish", 1, 0).due(1, "waiting", 1).due(NONE, "waiting", 2).due(1, "cancel", 0)
                .due(NONE, "waiting", 2);
        x.due(0, "addIssue", 1, 1).due(1, "pass", 1).due(1, "waiting", 0).due(NONE, "waiting", 1);
        x.due(1, "addIssue", 2, 1).due(1, "pass", 1).due(NONE, "waiting", 0).due(3, "finish", 3, 0)
                .due(3, "waiting", 0);
    }

    private static void waitingByUrgencyAndThenByTheOrderOfFinishing() {
        Play x = Play.withWords("22: 0 for the one that would be taken first", 6);
        for (int i = 0; i < 6; i++) {
            x.due(i, "order", 0, i, i);
        }
        x.due(1, "finish", 5, 0).due(2, "finish", 3, 9).due(3, "finish", 4, 9).due(4, "finish", 0, 8);
        x.due(5, "finish", 2, 0).due(6, "finish", 1, 9);
        x.due(3, "waiting", 0).due(4, "waiting", 1).due(1, "waiting", 2).due(0, "waiting", 3).due(5, "waiting", 4);
        x.due(2, "waiting", 5).due(NONE, "waiting", 6).due(0, "addIssue", 1, 2).due(2, "pass", 1);
        x.due(PRINTED, "stateOf", 3).due(PRINTED, "stateOf", 4).due(1, "waiting", 0).due(2, "waiting", 3);
    }

    private static void waitingOf30() {
        Play x = Play.withWords("22: 30 that wait", 30);
        for (int i = 0; i < 30; i++) {
            x.due(i, "order", 0, i, i).due(i + 1, "finish", i, i / 3);
        }
        for (int i = 0; i < 30; i++) {
            x.due(27 - i / 3 * 3 + i % 3, "waiting", i);
        }
        x.due(NONE, "waiting", 30).due(0, "addIssue", 1, 200).due(30, "pass", 1).due(NONE, "waiting", 0);

        Play y = Play.withWords("22: 30 that wait, the last one finished first", 30);
        for (int i = 0; i < 30; i++) {
            y.due(i, "order", 0, i, i);
        }
        for (int i = 0; i < 30; i++) {
            y.due(i + 1, "finish", 29 - i, 9 - i / 3).due(29 - i, "waiting", i).due(29, "waiting", 0);
        }
    }

    // ---- 23: pass

    private static void passTakes1To100Days() {
        Play x = Play.begin("23: days, 1 to 100").noArgumentOutside(1, 100, 0, "pass", 5).due(0, "today");
        x.due(0, "pass", 1).due(1, "today").due(0, "pass", 100).due(101, "today");
        x.noArgumentOutside(1, 100, 0, "pass", 5).due(101, "today");
    }

    private static void passUpTo1000() {
        Play x = Play.begin("23: today would be above 1000");
        for (int i = 0; i < 9; i++) {
            x.due(0, "pass", 100);
        }
        x.due(0, "pass", 1).noState("pass", 100).due(901, "today").due(0, "pass", 98).due(999, "today");
        x.noState("pass", 2).noState("pass", 100).due(0, "pass", 1).due(1000, "today").noState("pass", 1);
        x.noState("pass", 100).due(1000, "today");

        Play y = Play.begin("23: 1000 at once");
        for (int i = 0; i < 10; i++) {
            y.due(0, "pass", 100);
        }
        y.due(1000, "today").noState("pass", 1).noState("pass", 100);
    }

    private static void passThrowsTheFirstOfItsExceptions() {
        Play x = Play.begin("23: the first of its exceptions");
        for (int i = 0; i < 10; i++) {
            x.due(0, "pass", 100);
        }
        x.noArgument("pass", 101).noArgument("pass", 0).noArgument("pass", -1).noArgument("pass", Integer.MAX_VALUE);
        x.noState("pass", 1).noState("pass", 100);
    }

    private static void passRefusedChangesNothing() {
        Play x = Play.withWords("23: a refused call", 2).due(0, "order", 0, 0, 1).due(2, "finish", 0, 0);
        x.due(0, "addIssue", 950, 2).noArgument("pass", 101).noArgument("pass", 0);
        for (int i = 0; i < 9; i++) {
            x.due(0, "pass", 100);
        }
        x.due(0, "pass", 1).noState("pass", 100).due(NONE, "printed", 0).due(DONE, "stateOf", 0).due(0, "royalties", 0);
        x.due(901, "today").due(2, "pass", 99).due(2, "printed", 0).due(10, "royalties", 0);
    }

    private static void passPrintsWhenTodayComesToTheDay() {
        Play x = Play.withWords("23: when today comes to the day of an issue", 3).due(0, "addIssue", 50, 9);
        for (int i = 0; i < 3; i++) {
            x.due(i, "order", 0, i, i).due(i + 1, "finish", i, 0);
        }
        x.due(0, "pass", 49).due(NONE, "printed", 0).due(3, "pass", 1).due(3, "printed", 0).due(0, "pass", 100);

        Play y = Play.withWords("23: on the last of many days", 1).due(0, "addIssue", 100, 1)
                .due(1, "addIssue", 101, 1);
        y.due(0, "order", 0, 0, 0).due(1, "finish", 0, 0).due(1, "pass", 100).due(1, "printed", 0);
        y.due(NONE, "printed", 1).due(0, "pass", 1).due(0, "printed", 1);
    }

    private static void passPrintsSeveralIssues() {
        Play x = Play.withWords("23: how many words are printed in them", 12);
        for (int i = 0; i < 12; i++) {
            x.due(i, "addIssue", 100 - i, 1).due(i, "order", 0, i, i).due(i + 1, "finish", i, 0);
        }
        x.due(0, "pass", 88).due(12, "pass", 12);
        for (int i = 0; i < 12; i++) {
            x.due(1, "printed", i).due(PRINTED, "stateOf", i);
        }
        x.due(60, "royalties", 0).due(0, "pass", 1);

        Play y = Play.withWords("23: days are gone through in their order", 5).due(0, "addIssue", 20, 2);
        y.due(1, "addIssue", 10, 3).due(0, "order", 0, 0, 2).due(1, "order", 0, 3, 4).due(3, "finish", 0, 0);
        y.due(5, "finish", 1, 0).due(5, "pass", 100).due(2, "printed", 0).due(3, "printed", 1);
    }

    private static void printingTakesWhatHasRoom() {
        Play x = Play.withWords("23: as long as its words have room in what is left", 6).due(0, "order", 0, 0, 2);
        x.due(1, "order", 0, 3, 4).due(2, "order", 0, 5, 5).due(3, "finish", 0, 9).due(5, "finish", 1, 5);
        x.due(6, "finish", 2, 1).due(0, "addIssue", 1, 2).due(1, "addIssue", 2, 4).due(2, "addIssue", 3, 3);
        x.due(0, "pass", 1).due(0, "printed", 0).due(3, "pass", 1).due(3, "printed", 1).due(3, "pass", 1);
        x.due(3, "printed", 2).due(30, "royalties", 0);

        Play y = Play.withWords("23: just as much room as all of them want", 6).due(0, "order", 0, 0, 2);
        y.due(1, "order", 0, 3, 4).due(2, "order", 0, 5, 5).due(3, "finish", 0, 0).due(5, "finish", 1, 0);
        y.due(6, "finish", 2, 0).due(0, "addIssue", 1, 6).due(6, "pass", 1).due(NONE, "waiting", 0);

        Play z = Play.withWords("23: one less", 6).due(0, "order", 0, 0, 2).due(1, "order", 0, 3, 4);
        z.due(2, "order", 0, 5, 5).due(3, "finish", 0, 0).due(5, "finish", 1, 0).due(6, "finish", 2, 0);
        z.due(0, "addIssue", 1, 5).due(5, "pass", 1).due(2, "waiting", 0).due(NONE, "waiting", 1);
    }

    private static void printingEndsAtTheFirstThatHasNone() {
        Play x = Play.withWords("23: the first one that has none ends that", 6).due(0, "order", 0, 0, 0);
        x.due(1, "order", 0, 1, 3).due(2, "order", 0, 4, 4).due(3, "order", 0, 5, 5).due(1, "finish", 0, 2);
        x.due(4, "finish", 1, 2).due(5, "finish", 2, 2).due(6, "finish", 3, 1).due(0, "addIssue", 1, 3);
        x.due(1, "pass", 1).due(PRINTED, "stateOf", 0).due(DONE, "stateOf", 1).due(DONE, "stateOf", 2);
        x.due(DONE, "stateOf", 3).due(1, "waiting", 0).due(1, "frozenBy", 1).due(2, "frozenBy", 4)
                .due(NONE, "frozenBy", 0);
        x.due(1, "addIssue", 2, 2).due(0, "pass", 1).due(0, "printed", 1).due(2, "addIssue", 3, 4).due(4, "pass", 1);
        x.due(3, "waiting", 0).due(25, "royalties", 0);
    }

    private static void printingOfNoneAndOfAll() {
        Play x = Play.begin("23: none waits").due(0, "addIssue", 1, 200).due(0, "pass", 1).due(0, "printed", 0);

        Play y = Play.withWords("23: ordered and cancelled ones do not wait", 2).due(0, "order", 0, 0, 0);
        y.due(1, "order", 0, 1, 1).due(1, "cancel", 1).due(0, "addIssue", 1, 200).due(0, "pass", 1)
                .due(0, "printed", 0);
        y.due(0, "stateOf", 0).due(2, "stateOf", 1).due(0, "frozenBy", 0);

        Play z = Play.withWords("23: 200 words at once", 200).due(0, "order", 0, 0, 99).due(1, "order", 0, 100, 199);
        z.due(100, "finish", 0, 0).due(200, "finish", 1, 0).due(0, "addIssue", 1, 200).due(200, "pass", 1);
        z.due(200, "printed", 0).due(1000, "royalties", 0);

        Play w = Play.withWords("23: a review that no issue has room for", 202).due(0, "order", 0, 0, 200);
        w.due(1, "order", 0, 201, 201).due(201, "finish", 0, 0).due(202, "finish", 1, 0).due(0, "addIssue", 1, 200);
        w.due(0, "pass", 100).due(0, "printed", 0).due(0, "waiting", 0).due(1, "waiting", 1);
    }

    private static void printingOf30Reviews() {
        Play x = Play.withWords("23: room for 30 reviews", 60).due(0, "addIssue", 1, 39).due(1, "addIssue", 2, 1);
        x.due(2, "addIssue", 3, 19).due(3, "addIssue", 4, 1).due(4, "addIssue", 5, 2);
        for (int i = 0; i < 30; i++) {
            x.due(i, "order", 0, 2 * i, 2 * i + 1).due(2 * i + 2, "finish", i, 7);
        }
        x.due(38, "pass", 1).due(19, "waiting", 0).due(0, "pass", 1).due(18, "pass", 1).due(28, "waiting", 0);
        x.due(0, "pass", 1).due(2, "pass", 1).due(29, "waiting", 0).due(NONE, "waiting", 1).due(29, "frozenBy", 58);
        x.due(NONE, "frozenBy", 57).due(290, "royalties", 0).due(38, "printed", 0).due(2, "printed", 4);
    }

    // ---- 24: today

    private static void todayFirstAndLast() {
        Play x = Play.begin("24: 0 to 1000").due(0, "today");
        for (int i = 1; i <= 10; i++) {
            x.due(0, "pass", 100).due(100 * i, "today");
        }
        x.noState("pass", 1).due(1000, "today");
    }

    // ---- 25: printed

    private static void printedTakesIssues() {
        Play x = Play.begin("25: an issue").noPlaceFrom(0, 0, "printed", 0).due(0, "addIssue", 5, 5);
        x.noPlaceFrom(1, 0, "printed", 0).due(NONE, "printed", 0);
        for (int i = 1; i < 12; i++) {
            x.due(i, "addIssue", 5 + i, 5);
        }
        x.due(NONE, "printed", 0).due(NONE, "printed", 11).noPlaceFrom(12, 0, "printed", 0).due(0, "pass", 100);
        x.due(0, "printed", 0).due(0, "printed", 11).noPlaceFrom(12, 0, "printed", 0);
    }

    private static void printedIsNoneUntilItIsPrinted() {
        Play x = Play.withWords("25: NONE if it was not printed", 2).due(0, "addIssue", 2, 5).due(1, "addIssue", 3, 5);
        x.due(0, "order", 0, 0, 1).due(2, "finish", 0, 0).due(NONE, "printed", 0).due(0, "pass", 1)
                .due(NONE, "printed", 0);
        x.due(2, "pass", 1).due(2, "printed", 0).due(NONE, "printed", 1).due(0, "pass", 1).due(0, "printed", 1);
        x.due(2, "printed", 0);
    }

    // ---- 26: royalties

    private static void royaltiesTakesWriters0To5() {
        Play x = Play.withWords("26: writer, 0 to 5", 2).due(2, "type", 5, 0, 7).due(0, "merge", 5)
                .due(0, "order", 0, 0, 2);
        x.noPlaceFrom(6, 0, "royalties", 0).due(3, "finish", 0, 0).due(0, "addIssue", 1, 3).due(0, "royalties", 5);
        x.due(3, "pass", 1).due(10, "royalties", 0).due(0, "royalties", 1).due(0, "royalties", 4)
                .due(5, "royalties", 5);
        x.noPlaceFrom(6, 0, "royalties", 0);
    }

    private static void royaltiesOfWordsWhoseNumbersAreNotTheirPlaces() {
        Play x = Play.withWordsBackwards("26: for its writer", 3).due(0, "merge", 2).due(3, "type", 2, 0, 7);
        x.due(4, "type", 2, 3, 7).due(0, "merge", 2).textIs("3 2 1 4 0").due(0, "order", 1, 0, 1)
                .due(1, "order", 1, 3, 3);
        x.due(2, "order", 1, 4, 4).due(2, "finish", 0, 3).due(3, "finish", 1, 2).due(4, "finish", 2, 1);
        x.due(0, "addIssue", 1, 2).due(1, "addIssue", 2, 1).due(2, "addIssue", 3, 1).due(2, "pass", 1);
        x.due(5, "royalties", 0).due(5, "royalties", 2).due(1, "pass", 1).due(5, "royalties", 0)
                .due(10, "royalties", 2);
        x.due(1, "pass", 1).due(10, "royalties", 0).due(10, "royalties", 2);
    }

    private static void royaltiesOfNoneAndOfMany() {
        Play x = Play.withWords("26: each of its words is printed once more", 200).due(0, "royalties", 0);
        for (int i = 0; i < 12; i++) {
            x.due(i, "order", 0, 0, 199).due(200 * (i + 1), "finish", i, 0).due(i, "addIssue", i + 1, 200);
            x.due(200, "pass", 1).due(1000 * (i + 1), "royalties", 0);
        }
        x.due(0, "royalties", 1).due(12, "order", 0, 0, 0).due(2401, "finish", 12, 0).due(0, "pass", 1);
        x.due(12000, "royalties", 0);
    }
}
