/** Promises 8 to 13: the draft. */
final class DraftTest {
    private DraftTest() {
    }

    static void run() {
        lengthAndWordAt();
        word();
        placeOf();
        share();
        shareWithRefusals();
        wrongly();
    }

    private static void lengthAndWordAt() {
        DraftCommon x = Drafts.withWords(4);
        Check.due("8: length", x.length(), 4);
        Check.due("9: wordAt", x.wordAt(3), 3);
        x.delete(0, 1);
        Check.due("8: before the merge", x.length(), 4);
        x.merge(0);
        Check.due("8: after the merge", x.length(), 3);
        Check.due("9: wordAt", x.wordAt(1), 2);
        Check.noPlace("9: place 3", () -> x.wordAt(3));
        Check.noPlace("9: place -1", () -> x.wordAt(-1));
    }

    private static void word() {
        DraftCommon x = new DraftCommon();
        x.type(0, 0, 0);
        x.type(5, 0, 999);
        x.type(3, 0, 42);
        Check.due("10: word 0", x.word(0), 0);
        Check.due("10: word 999 of writer 5", x.word(1), 5999);
        Check.due("10: a word that is not merged", x.word(2), 3042);
        x.delete(3, 0);
        x.merge(3);
        Check.due("10: a word that is deleted", x.word(2), 3042);
    }

    private static void placeOf() {
        DraftCommon x = Drafts.withWords(3);
        x.type(1, 0, 0);
        Check.due("11: place 2", x.placeOf(2), 2);
        Check.due("11: in a copy only", x.placeOf(3), DraftCommon.NONE);
        x.delete(0, 0);
        x.merge(0);
        Check.due("11: deleted", x.placeOf(0), DraftCommon.NONE);
        Check.due("11: place 1", x.placeOf(2), 1);
        x.merge(1);
        Check.due("11: at the very beginning", x.placeOf(3), 0);
        Check.due("11: place 2", x.placeOf(2), 2);
    }

    private static void share() {
        DraftCommon x = Drafts.withWords(3);
        x.merge(1);
        x.type(1, 1, 7);
        x.type(1, 2, 7);
        sharesAre(x, "typed only", 0, 3, 1, 0);
        x.merge(1);
        sharesAre(x, "merged", 0, 3, 1, 2);
        x.delete(1, 0);
        x.delete(1, 0);
        x.merge(1);
        sharesAre(x, "deleted by another", 0, 2, 1, 1);
        x.delete(0, 0);
        x.delete(0, 0);
        x.merge(0);
        sharesAre(x, "one of them was deleted already", 0, 1, 1, 1);
    }

    private static void shareWithRefusals() {
        DraftCommon x = Drafts.withWords(3);
        x.merge(1);
        x.order(0, 0, 1);
        x.type(1, 1, 7);
        x.type(1, 3, 7);
        x.delete(1, 0);
        x.delete(1, 0);
        Check.due("4: two are refused", x.merge(1), 2);
        sharesAre(x, "refused ones do not count", 0, 3, 1, 1);
        x.cancel(0);
        sharesAre(x, "nor when the words are free", 0, 3, 1, 1);
        x.delete(1, 0);
        x.merge(1);
        sharesAre(x, "deleted in the end", 0, 2, 1, 1);
    }

    private static void sharesAre(DraftCommon x, String when, int one, int hers, int other, int his) {
        Check.due("12: share, " + when, x.share(one), hers);
        Check.due("12: share, " + when, x.share(other), his);
        Check.due("13: shareAnew, " + when, x.shareAnew(one), hers);
        Check.due("13: shareAnew, " + when, x.shareAnew(other), his);
    }

    private static void wrongly() {
        DraftCommon x = Drafts.withWords(2);
        Check.noPlace("10: word 2", () -> x.word(2));
        Check.noPlace("10: word -1", () -> x.word(-1));
        Check.noPlace("11: word 2", () -> x.placeOf(2));
        Check.noPlace("11: word -1", () -> x.placeOf(-1));
        Check.noPlace("12: writer 6", () -> x.share(6));
        Check.noPlace("12: writer -1", () -> x.share(-1));
        Check.noPlace("13: writer 6", () -> x.shareAnew(6));
        Check.noPlace("13: writer -1", () -> x.shareAnew(-1));
    }
}
