/** Promises 21 to 26: issues. */
final class IssueTest {
    private IssueTest() {
    }

    static void run() {
        addIssue();
        addIssueAtMost();
        waiting();
        passWrongly();
        passPrintsInTheOrderOfDays();
        printingEndsAtTheFirstWithoutRoom();
        printingFillsAnIssue();
        today();
        printed();
        royalties();
    }

    private static void addIssue() {
        DraftCommon x = new DraftCommon();
        Check.due("21: tomorrow", x.addIssue(1, 1), 0);
        Check.due("21: the last day", x.addIssue(1000, 200), 1);
        Check.noArgument("21: today", () -> x.addIssue(0, 1));
        Check.noArgument("21: day 1001", () -> x.addIssue(1001, 1));
        Check.noArgument("21: day -1", () -> x.addIssue(-1, 1));
        Check.noArgument("21: room 0", () -> x.addIssue(2, 0));
        Check.noArgument("21: room 201", () -> x.addIssue(2, 201));
        Check.noState("21: a day twice", () -> x.addIssue(1, 5));
        Check.noArgument("21: the room ahead of the state", () -> x.addIssue(1, 0));
        x.pass(2);
        Check.noArgument("21: a day that is gone", () -> x.addIssue(1, 5));
        Check.noArgument("21: today again", () -> x.addIssue(2, 5));
        Check.due("21: no number was taken", x.addIssue(3, 5), 2);
    }

    private static void addIssueAtMost() {
        DraftCommon x = new DraftCommon();
        for (int i = 0; i < 12; i++) {
            Check.due("21: the number of an issue", x.addIssue(100 - i, 1), i);
        }
        Check.noState("21: an issue too many", () -> x.addIssue(200, 1));
        x.pass(100);
        Check.noState("21: a printed one makes no room", () -> x.addIssue(200, 1));
        Check.noArgument("21: the day ahead of the state", () -> x.addIssue(100, 1));
    }

    private static void waiting() {
        DraftCommon x = Drafts.withWords(6);
        for (int i = 0; i < 6; i++) {
            x.order(0, i, i);
        }
        Check.due("22: ordered ones do not wait", x.waiting(0), DraftCommon.NONE);
        x.finish(4, 5);
        x.finish(2, 5);
        x.finish(1, 9);
        x.finish(3, 0);
        x.finish(0, 5);
        int[] want = {1, 4, 2, 0, 3, DraftCommon.NONE};
        for (int place = 0; place < want.length; place++) {
            Check.due("22: waiting at " + place, x.waiting(place), want[place]);
        }
        Check.due("22: far behind", x.waiting(Integer.MAX_VALUE), DraftCommon.NONE);
        Check.noArgument("22: place -1", () -> x.waiting(-1));
        x.addIssue(1, 2);
        x.pass(1);
        Check.due("22: two were taken", x.waiting(0), 2);
        Check.due("22: and so on", x.waiting(1), 0);
        Check.due("22: three wait", x.waiting(3), DraftCommon.NONE);
    }

    private static void passWrongly() {
        DraftCommon x = new DraftCommon();
        Check.noArgument("23: 0 days", () -> x.pass(0));
        Check.noArgument("23: -1 days", () -> x.pass(-1));
        Check.noArgument("23: 101 days", () -> x.pass(101));
        for (int i = 0; i < 9; i++) {
            Check.due("23: nothing to print", x.pass(100), 0);
        }
        x.pass(99);
        Check.noState("23: above 1000", () -> x.pass(2));
        Check.noArgument("23: the range ahead of the state", () -> x.pass(101));
        Check.due("24: nothing was changed", x.today(), 999);
        Check.due("23: up to 1000", x.pass(1), 0);
        Check.noState("23: above 1000", () -> x.pass(1));
        Check.noArgument("21: no day is left", () -> x.addIssue(1000, 1));
    }

    private static void passPrintsInTheOrderOfDays() {
        DraftCommon x = Drafts.withWords(6);
        x.order(0, 0, 2);
        x.order(0, 3, 4);
        x.order(0, 5, 5);
        x.addIssue(7, 3);
        x.addIssue(4, 2);
        x.addIssue(9, 100);
        x.finish(0, 1);
        x.finish(1, 2);
        Check.due("23: the day before", x.pass(3), 0);
        Check.due("23: two issues in these days", x.pass(5), 5);
        Check.due("25: the earlier day takes the more urgent", x.printed(1), 2);
        Check.due("25: the later one", x.printed(0), 3);
        Check.due("25: not yet printed", x.printed(2), DraftCommon.NONE);
        Check.due("23: nothing waits", x.pass(1), 0);
        Check.due("25: printed with no words", x.printed(2), 0);
        x.finish(2, 9);
        Check.due("23: an issue is printed once", x.pass(50), 0);
        Check.due("18: it still waits", x.stateOf(2), DraftCommon.DONE);
    }

    private static void printingEndsAtTheFirstWithoutRoom() {
        DraftCommon x = Drafts.withWords(6);
        x.order(0, 0, 0);
        x.order(0, 1, 4);
        x.order(0, 5, 5);
        x.finish(0, 9);
        x.finish(1, 5);
        x.finish(2, 1);
        x.addIssue(1, 4);
        x.addIssue(2, 4);
        x.addIssue(3, 4);
        Check.due("23: a smaller one behind is not taken", x.pass(1), 1);
        Check.due("18: it waits", x.stateOf(2), DraftCommon.DONE);
        Check.due("23: just as much room", x.pass(1), 4);
        Check.due("18: none is left for it", x.stateOf(2), DraftCommon.DONE);
        Check.due("23: the last one", x.pass(1), 1);
        Check.due("18: it is printed", x.stateOf(2), DraftCommon.PRINTED);
    }

    private static void printingFillsAnIssue() {
        DraftCommon x = Drafts.withWords(30);
        for (int i = 0; i < 30; i++) {
            x.order(0, i, i);
            x.finish(i, i % 10);
        }
        x.addIssue(1, 29);
        x.addIssue(2, 200);
        Check.due("23: 29 of 30", x.pass(1), 29);
        Check.due("22: the last one", x.waiting(0), 20);
        Check.due("23: the last one", x.pass(1), 1);
        Check.due("26: each word once", x.royalties(0), 150);
    }

    private static void today() {
        DraftCommon x = new DraftCommon();
        x.pass(1);
        Check.due("24: today", x.today(), 1);
        x.pass(100);
        Check.due("24: today", x.today(), 101);
    }

    private static void printed() {
        DraftCommon x = Drafts.withWords(3);
        x.addIssue(1, 3);
        Check.due("25: not printed", x.printed(0), DraftCommon.NONE);
        x.order(0, 0, 2);
        x.finish(0, 0);
        x.pass(1);
        Check.due("25: three words", x.printed(0), 3);
        x.delete(0, 0);
        x.merge(0);
        Check.due("25: what is printed stays", x.printed(0), 3);
        Check.noPlace("25: issue 1", () -> x.printed(1));
        Check.noPlace("25: issue -1", () -> x.printed(-1));
    }

    private static void royalties() {
        DraftCommon x = Drafts.withWords(2);
        x.merge(3);
        x.type(3, 1, 7);
        x.merge(3);
        x.order(0, 0, 2);
        x.finish(0, 0);
        Check.due("26: not by finishing", x.royalties(0), 0);
        x.addIssue(1, 9);
        x.addIssue(2, 9);
        x.pass(1);
        Check.due("26: two words", x.royalties(0), 10);
        Check.due("26: one word", x.royalties(3), 5);
        x.order(0, 1, 1);
        x.finish(1, 0);
        x.pass(1);
        Check.due("26: a word is printed once more", x.royalties(3), 10);
        Check.due("26: the others not", x.royalties(0), 10);
        Check.due("26: the others not", x.royalties(5), 0);
        Check.noPlace("26: writer 6", () -> x.royalties(6));
        Check.noPlace("26: writer -1", () -> x.royalties(-1));
    }
}
