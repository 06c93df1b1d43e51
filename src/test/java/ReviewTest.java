/** Promises 14 to 20: reviews. */
final class ReviewTest {
    private ReviewTest() {
    }

    static void run() {
        setRate();
        order();
        orderWrongly();
        orderAtMost();
        finish();
        cancel();
        stateOf();
        frozenBy();
        earned();
    }

    private static void setRate() {
        DraftCommon x = new DraftCommon();
        for (int reviewer = 0; reviewer < 4; reviewer++) {
            Check.due("14: the rate at first", x.setRate(reviewer, 100), 1);
            Check.due("14: the rate before", x.setRate(reviewer, 0), 100);
        }
        Check.noPlace("14: reviewer 4", () -> x.setRate(4, 1));
        Check.noPlace("14: reviewer -1", () -> x.setRate(-1, 1));
        Check.noPlace("14: the reviewer ahead of the rate", () -> x.setRate(4, 101));
        Check.noArgument("14: rate 101", () -> x.setRate(0, 101));
        Check.noArgument("14: rate -1", () -> x.setRate(0, -1));
        Check.due("14: nothing was changed", x.setRate(0, 5), 0);
    }

    private static void order() {
        DraftCommon x = Drafts.withWords(5);
        Check.due("15: the first review", x.order(3, 1, 2), 0);
        Check.due("15: one word", x.order(0, 0, 0), 1);
        Check.due("15: the last words", x.order(0, 3, 4), 2);
        int[] want = {1, 0, 0, 2, 2};
        for (int number = 0; number < 5; number++) {
            Check.due("19: frozenBy", x.frozenBy(number), want[number]);
        }
    }

    private static void orderWrongly() {
        DraftCommon x = Drafts.withWords(5);
        x.order(0, 2, 2);
        Check.noState("15: all over a frozen word", () -> x.order(0, 0, 4));
        Check.noState("15: up to a frozen word", () -> x.order(0, 1, 2));
        Check.noState("15: from a frozen word", () -> x.order(0, 2, 3));
        Check.noPlace("15: reviewer 4", () -> x.order(4, 0, 0));
        Check.noPlace("15: reviewer -1", () -> x.order(-1, 0, 0));
        Check.noPlace("15: from -1", () -> x.order(0, -1, 0));
        Check.noPlace("15: to 5", () -> x.order(0, 0, 5));
        Check.noPlace("15: from 5 ahead of the wrong order", () -> x.order(0, 5, 1));
        Check.noPlace("15: to -1 ahead of the wrong order", () -> x.order(0, 1, -1));
        Check.noArgument("15: to ahead of from", () -> x.order(0, 1, 0));
        Check.noArgument("15: the order of the places ahead of the state", () -> x.order(0, 3, 2));
        Check.due("15: nothing was frozen", x.frozenBy(0), DraftCommon.NONE);
        Check.due("15: no number was taken", x.order(0, 0, 1), 1);
    }

    private static void orderAtMost() {
        DraftCommon x = Drafts.withWords(32);
        for (int i = 0; i < 30; i++) {
            Check.due("15: the number of a review", x.order(i % 4, i, i), i);
        }
        Check.noState("15: a review too many", () -> x.order(0, 30, 30));
        x.cancel(0);
        Check.noState("15: a cancelled one makes no room", () -> x.order(0, 30, 30));
        Check.noArgument("15: the order of the places ahead of the state", () -> x.order(0, 31, 30));
        Check.due("15: nothing was frozen", x.frozenBy(30), DraftCommon.NONE);
    }

    private static void finish() {
        DraftCommon x = Drafts.withWords(9);
        x.setRate(2, 7);
        x.order(2, 0, 2);
        x.setRate(2, 100);
        x.order(2, 3, 3);
        x.order(1, 4, 5);
        Check.due("16: three words at the rate of then", x.finish(0, 0), 21);
        Check.due("16: what is earned in all", x.finish(1, 9), 121);
        Check.noState("16: it is DONE", () -> x.finish(0, 0));
        Check.noPlace("16: review 3", () -> x.finish(3, 0));
        Check.noPlace("16: review -1", () -> x.finish(-1, 0));
        Check.noPlace("16: the review ahead of the urgency", () -> x.finish(3, 10));
        Check.noArgument("16: urgency 10", () -> x.finish(2, 10));
        Check.noArgument("16: urgency -1", () -> x.finish(2, -1));
        Check.noArgument("16: the urgency ahead of the state", () -> x.finish(0, 10));
        Check.due("16: it is still ORDERED", x.stateOf(2), DraftCommon.ORDERED);
        x.cancel(2);
        Check.noState("16: it is CANCELLED", () -> x.finish(2, 0));
        Check.due("16: nothing for it", x.earned(1), 0);
        x.setRate(3, 0);
        x.order(3, 6, 8);
        Check.due("16: a rate of 0", x.finish(3, 0), 0);
    }

    private static void cancel() {
        DraftCommon x = Drafts.withWords(6);
        x.order(0, 0, 2);
        x.order(0, 3, 3);
        Check.due("17: three words are free", x.cancel(0), 3);
        Check.due("17: one of them", x.frozenBy(1), DraftCommon.NONE);
        Check.due("17: another's stay", x.frozenBy(3), 1);
        Check.noState("17: it is CANCELLED", () -> x.cancel(0));
        Check.noPlace("17: review 2", () -> x.cancel(2));
        Check.noPlace("17: review -1", () -> x.cancel(-1));
        x.finish(1, 0);
        Check.noState("17: it is DONE", () -> x.cancel(1));
        Check.due("17: its words stay frozen", x.frozenBy(3), 1);
        x.addIssue(1, 9);
        x.pass(1);
        Check.noState("17: it is PRINTED", () -> x.cancel(1));
        Check.due("17: ordered again", x.order(0, 0, 5), 2);
        Check.due("17: all of them", x.cancel(2), 6);
    }

    private static void stateOf() {
        DraftCommon x = Drafts.withWords(4);
        x.order(0, 0, 0);
        x.order(0, 1, 1);
        Check.due("18: ORDERED", x.stateOf(0), DraftCommon.ORDERED);
        x.finish(0, 0);
        x.cancel(1);
        Check.due("18: DONE", x.stateOf(0), DraftCommon.DONE);
        Check.due("18: CANCELLED", x.stateOf(1), DraftCommon.CANCELLED);
        x.addIssue(1, 1);
        x.pass(1);
        Check.due("18: PRINTED", x.stateOf(0), DraftCommon.PRINTED);
        Check.noPlace("18: review 2", () -> x.stateOf(2));
        Check.noPlace("18: review -1", () -> x.stateOf(-1));
    }

    private static void frozenBy() {
        DraftCommon x = Drafts.withWords(2);
        x.type(1, 0, 4);
        Check.due("19: not frozen", x.frozenBy(0), DraftCommon.NONE);
        Check.due("19: in a copy only", x.frozenBy(2), DraftCommon.NONE);
        x.order(0, 0, 0);
        x.order(0, 1, 1);
        Check.due("19: by review 0", x.frozenBy(0), 0);
        Check.due("19: by review 1", x.frozenBy(1), 1);
        Check.noPlace("19: word 3", () -> x.frozenBy(3));
        Check.noPlace("19: word -1", () -> x.frozenBy(-1));
    }

    private static void earned() {
        DraftCommon x = Drafts.withWords(4);
        x.order(1, 0, 1);
        Check.due("20: not by ordering", x.earned(1), 0);
        x.finish(0, 0);
        Check.due("20: two words", x.earned(1), 2);
        Check.due("20: not another's", x.earned(0), 0);
        x.addIssue(1, 9);
        x.pass(1);
        Check.due("20: not by printing", x.earned(1), 2);
        Check.noPlace("20: reviewer 4", () -> x.earned(4));
        Check.noPlace("20: reviewer -1", () -> x.earned(-1));
    }
}
