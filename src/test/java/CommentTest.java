/** Promises 27 to 30: comments and versions. */
final class CommentTest {
    private CommentTest() {
    }

    static void run() {
        comment();
        commentAtMost();
        spanMoves();
        spanLosesItsEnds();
        keepAtMost();
        compare();
    }

    private static void comment() {
        DraftCommon x = Drafts.withWords(3);
        Check.due("27: the first comment", x.comment(0, 2), 0);
        Check.due("27: one word", x.comment(2, 2), 1);
        Check.due("28: all words", x.span(0), 3);
        Check.due("28: the last word", x.span(1), 2001);
        Check.noPlace("27: from -1", () -> x.comment(-1, 0));
        Check.noPlace("27: to 3", () -> x.comment(0, 3));
        Check.noPlace("27: from 3 ahead of the wrong order", () -> x.comment(3, 1));
        Check.noPlace("27: to -1 ahead of the wrong order", () -> x.comment(1, -1));
        Check.noArgument("27: to ahead of from", () -> x.comment(2, 1));
        Check.noPlace("28: comment 2", () -> x.span(2));
        Check.noPlace("28: comment -1", () -> x.span(-1));
        x.order(0, 0, 2);
        Check.due("27: frozen words", x.comment(0, 0), 2);
    }

    private static void commentAtMost() {
        DraftCommon x = Drafts.withWords(2);
        for (int i = 0; i < 40; i++) {
            Check.due("27: the number of a comment", x.comment(0, i % 2), i);
        }
        Check.noState("27: a comment too many", () -> x.comment(0, 0));
        Check.noArgument("27: the order of the places ahead of the state", () -> x.comment(1, 0));
        Check.noPlace("27: the place ahead of the state", () -> x.comment(0, 2));
        Check.due("28: the last comment", x.span(39), 2);
    }

    private static void spanMoves() {
        DraftCommon x = Drafts.withWords(4);
        x.comment(1, 2);
        x.type(0, 0, 10);
        Check.due("28: before the merge", x.span(0), 1002);
        x.merge(0);
        Check.due("28: moved by a word ahead", x.span(0), 2002);
        x.type(0, 3, 11);
        x.merge(0);
        Check.due("28: grown by a word inside", x.span(0), 2003);
        x.type(0, 5, 12);
        x.type(0, 2, 13);
        x.merge(0);
        Check.due("28: words at its borders are outside", x.span(0), 3003);
    }

    private static void spanLosesItsEnds() {
        DraftCommon x = Drafts.withWords(5);
        x.comment(1, 3);
        x.delete(0, 1);
        x.merge(0);
        Check.due("28: without its first word", x.span(0), 1002);
        x.delete(0, 2);
        x.merge(0);
        Check.due("28: without its last word", x.span(0), 1001);
        x.delete(0, 1);
        x.merge(0);
        Check.due("28: without all", x.span(0), DraftCommon.NONE);
        x.type(0, 1, 9);
        x.merge(0);
        Check.due("28: a word ahead of it is not in it", x.span(0), DraftCommon.NONE);

        DraftCommon y = Drafts.withWords(3);
        y.merge(1);
        y.type(1, 2, 9);
        y.comment(1, 2);
        y.delete(0, 1);
        y.delete(0, 1);
        y.merge(0);
        Check.due("28: without all", y.span(0), DraftCommon.NONE);
        y.merge(1);
        Check.due("28: a word behind its deleted first one is in it", y.span(0), 1001);
    }

    private static void keepAtMost() {
        DraftCommon x = Drafts.withWords(20);
        for (int i = 0; i < 20; i++) {
            Check.due("29: the number of a version", x.keep(), i);
            x.delete(0, 0);
            x.merge(0);
        }
        Check.noState("29: a version too many", () -> x.keep());
        Check.due("30: the first and the last", x.compare(0, 19), 19);
        Check.due("30: the last and the first", x.compare(19, 0), 19000);
        Check.due("30: two in the middle", x.compare(9, 11), 2);
        Check.noPlace("30: version 20", () -> x.compare(0, 20));
    }

    private static void compare() {
        DraftCommon x = new DraftCommon();
        x.keep();
        x.type(0, 0, 1);
        x.type(0, 1, 1);
        x.type(0, 2, 1);
        x.keep();
        x.merge(0);
        x.keep();
        x.delete(0, 1);
        x.type(0, 0, 1);
        x.type(0, 0, 1);
        x.merge(0);
        x.keep();
        Check.due("30: nothing was merged", x.compare(0, 1), 0);
        Check.due("30: three more", x.compare(0, 2), 3000);
        Check.due("30: three less", x.compare(2, 0), 3);
        Check.due("30: two more, one less", x.compare(2, 3), 2001);
        Check.due("30: one more, two less", x.compare(3, 2), 1002);
        Check.due("30: with itself", x.compare(3, 3), 0);
        Check.noPlace("30: one 4", () -> x.compare(4, 0));
        Check.noPlace("30: one -1", () -> x.compare(-1, 0));
        Check.noPlace("30: other 4", () -> x.compare(0, 4));
        Check.noPlace("30: other -1", () -> x.compare(0, -1));
    }
}
