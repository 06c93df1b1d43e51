/** Promises 1 to 7: a new object, and the copies. */
final class CopyTest {
    private CopyTest() {
    }

    static void run() {
        newObject();
        type();
        typeWrongly();
        typeAtMost();
        delete();
        mergeOrder();
        mergeBehindDeleted();
        mergeRefusesWordsInFrozenSpans();
        mergeTakesAnchorsOfAnchors();
        mergeAcrossDeletedWords();
        mergeRefusesDeletingFrozenWords();
        mergeFreeAgain();
        copyAndCopyAt();
        changes();
        manyChanges();
    }

    private static void newObject() {
        DraftCommon x = new DraftCommon();
        Check.due("1: today", x.today(), 0);
        Check.due("1: length", x.length(), 0);
        Check.due("1: waiting", x.waiting(0), DraftCommon.NONE);
        for (int writer = 0; writer < 6; writer++) {
            int w = writer;
            Check.due("1: copy", x.copy(w), 0);
            Check.due("1: changes", x.changes(w), 0);
            Check.due("1: share", x.share(w), 0);
            Check.due("1: shareAnew", x.shareAnew(w), 0);
            Check.due("1: royalties", x.royalties(w), 0);
            Check.noPlace("1: copyAt", () -> x.copyAt(w, 0));
        }
        for (int reviewer = 0; reviewer < 4; reviewer++) {
            Check.due("1: earned", x.earned(reviewer), 0);
        }
        Check.noPlace("1: wordAt", () -> x.wordAt(0));
        Check.noPlace("1: word", () -> x.word(0));
        Check.noPlace("1: placeOf", () -> x.placeOf(0));
        Check.noPlace("1: frozenBy", () -> x.frozenBy(0));
        Check.noPlace("1: stateOf", () -> x.stateOf(0));
        Check.noPlace("1: printed", () -> x.printed(0));
        Check.noPlace("1: span", () -> x.span(0));
        Check.noPlace("1: compare", () -> x.compare(0, 0));
        DraftCommon y = new DraftCommon();
        y.type(0, 0, 1);
        Check.due("1: two objects share nothing", x.copy(0), 0);
    }

    private static void type() {
        DraftCommon x = new DraftCommon();
        Check.due("2: the first word", x.type(5, 0, 999), 0);
        Check.due("2: behind it", x.type(5, 1, 0), 1);
        Check.due("2: between", x.type(5, 1, 7), 2);
        Check.due("2: ahead of all", x.type(5, 0, 8), 3);
        Check.due("2: numbers are of all writers", x.type(0, 0, 9), 4);
        Drafts.copyIs(x, 5, "3 0 2 1");
        Drafts.copyIs(x, 0, "4");
        Check.due("2: nothing comes into the draft before a merge", x.length(), 0);
    }

    private static void typeWrongly() {
        DraftCommon x = new DraftCommon();
        x.type(2, 0, 3);
        Check.noPlace("2: writer -1", () -> x.type(-1, 0, 0));
        Check.noPlace("2: writer 6", () -> x.type(6, 0, 0));
        Check.noPlace("2: place -1", () -> x.type(2, -1, 0));
        Check.noPlace("2: place 2 of a copy of 1", () -> x.type(2, 2, 0));
        Check.noPlace("2: the place ahead of the word", () -> x.type(2, 2, 1000));
        Check.noArgument("2: word -1", () -> x.type(2, 1, -1));
        Check.noArgument("2: word 1000", () -> x.type(2, 1, 1000));
        Check.due("2: nothing was changed", x.changes(2), 1);
        Check.due("2: no number was taken", x.type(2, 1, 0), 1);
    }

    private static void typeAtMost() {
        DraftCommon x = new DraftCommon();
        for (int i = 0; i < 300; i++) {
            Check.due("2: the number of a word", x.type(i % 6, i / 6, i), i);
        }
        Check.noState("2: a word too many", () -> x.type(0, 0, 0));
        Check.noArgument("2: the range ahead of the state", () -> x.type(0, 0, 1000));
        Check.noPlace("2: the place ahead of the state", () -> x.type(0, 51, 0));
        Check.due("2: the copy stays", x.copy(0), 50);
        for (int writer = 0; writer < 6; writer++) {
            Check.due("2: all merge", x.merge(writer), 0);
        }
        Check.due("2: the draft holds all", x.length(), 300);
        Check.due("2: the last word", x.word(299), 5299);
        x.delete(0, 0);
        x.merge(0);
        Check.noState("2: a deleted word makes no room", () -> x.type(0, 0, 0));
    }

    private static void delete() {
        DraftCommon x = Drafts.withWords(3);
        Check.due("3: the middle one", x.delete(0, 1), 1);
        Check.due("3: what has come to its place", x.delete(0, 1), 2);
        Check.noPlace("3: the place behind the last", () -> x.delete(0, 1));
        Check.noPlace("3: place -1", () -> x.delete(0, -1));
        Check.noPlace("3: writer -1", () -> x.delete(-1, 0));
        Check.noPlace("3: writer 6", () -> x.delete(6, 0));
        Check.noPlace("3: an empty copy", () -> x.delete(1, 0));
        Drafts.copyIs(x, 0, "0");
        Drafts.textIs(x, "0 1 2");
        Check.due("3: two changes", x.changes(0), 2);
        Check.due("4: merge", x.merge(0), 0);
        Drafts.textIs(x, "0");
    }

    private static void mergeOrder() {
        DraftCommon x = Drafts.withWords(2);
        x.merge(1);
        x.merge(2);
        x.type(1, 1, 10);
        x.type(1, 2, 11);
        x.type(2, 1, 20);
        x.type(2, 0, 21);
        Check.due("4: merge", x.merge(1), 0);
        Drafts.textIs(x, "0 2 3 1");
        Check.due("4: merge", x.merge(2), 0);
        Drafts.textIs(x, "5 0 4 2 3 1");
        Drafts.copyIs(x, 2, "5 0 4 2 3 1");
        Drafts.copyIs(x, 1, "0 2 3 1");
        Check.due("4: merge with no changes", x.merge(1), 0);
        Drafts.copyIs(x, 1, "5 0 4 2 3 1");
        Check.noPlace("4: writer -1", () -> x.merge(-1));
        Check.noPlace("4: writer 6", () -> x.merge(6));
    }

    private static void mergeBehindDeleted() {
        DraftCommon x = Drafts.withWords(3);
        x.merge(1);
        x.type(1, 2, 10);
        x.delete(0, 1);
        x.merge(0);
        Check.due("4: the anchor is deleted, and keeps its place", x.merge(1), 0);
        Drafts.textIs(x, "0 3 2");
        x.merge(2);
        x.delete(2, 1);
        x.delete(1, 1);
        Check.due("4: deleted once", x.merge(1), 0);
        Check.due("4: deleted already is no refusal", x.merge(2), 0);
        Drafts.textIs(x, "0 2");
        x.type(1, 1, 11);
        x.delete(1, 1);
        Check.due("4: typed and deleted in one merge", x.merge(1), 0);
        Drafts.textIs(x, "0 2");
    }

    private static void mergeRefusesWordsInFrozenSpans() {
        DraftCommon x = Drafts.withWords(4);
        x.merge(1);
        x.order(0, 0, 1);
        x.order(1, 2, 3);
        x.type(1, 0, 10);
        x.type(1, 2, 11);
        x.type(1, 4, 12);
        x.type(1, 6, 13);
        x.type(1, 8, 14);
        Drafts.copyIs(x, 1, "4 0 5 1 6 2 7 3 8");
        Check.due("4: refused are those inside of a review, not those between two", x.merge(1), 2);
        Drafts.textIs(x, "4 0 1 6 2 3 8");
        Drafts.copyIs(x, 1, "4 0 1 6 2 3 8");
        Check.due("10: a refused word is a word", x.word(5), 1011);
        Check.due("11: a refused word has no place", x.placeOf(5), DraftCommon.NONE);
    }

    private static void mergeTakesAnchorsOfAnchors() {
        DraftCommon x = Drafts.withWords(3);
        x.merge(1);
        x.order(0, 0, 1);
        x.type(1, 1, 10);
        x.type(1, 2, 11);
        x.type(1, 3, 12);
        x.delete(1, 2);
        Check.due("4: a chain of refused anchors; deleting one of them is no refusal", x.merge(1), 3);
        Drafts.textIs(x, "0 1 2");

        DraftCommon y = Drafts.withWords(2);
        y.merge(1);
        y.order(0, 0, 1);
        y.type(1, 1, 10);
        y.merge(1);
        y.cancel(0);
        y.type(1, 1, 11);
        y.type(1, 2, 12);
        Check.due("4: free again", y.merge(1), 0);
        Drafts.textIs(y, "0 3 4 1");
    }

    private static void mergeAcrossDeletedWords() {
        DraftCommon x = Drafts.withWords(4);
        x.merge(1);
        x.type(1, 2, 10);
        x.type(1, 4, 11);
        x.delete(0, 1);
        x.merge(0);
        x.order(0, 0, 1);
        Drafts.textIs(x, "0 2 3");
        Check.due("4: a deleted word between two frozen ones parts nothing", x.merge(1), 1);
        Drafts.textIs(x, "0 2 5 3");

        DraftCommon y = Drafts.withWords(3);
        y.delete(0, 0);
        y.delete(0, 1);
        y.merge(0);
        y.order(0, 0, 0);
        y.merge(1);
        y.type(1, 0, 10);
        y.type(1, 2, 11);
        Check.due("4: a review of one word refuses none", y.merge(1), 0);
        Drafts.textIs(y, "3 1 4");
    }

    private static void mergeRefusesDeletingFrozenWords() {
        DraftCommon x = Drafts.withWords(3);
        x.merge(1);
        x.order(0, 1, 1);
        x.delete(1, 0);
        x.delete(1, 0);
        Check.due("4: a frozen word is not deleted", x.merge(1), 1);
        Drafts.textIs(x, "1 2");
        Drafts.copyIs(x, 1, "1 2");
        Check.due("7: refused ones do not stay", x.changes(1), 0);
        x.finish(0, 0);
        x.delete(1, 0);
        Check.due("4: it is still frozen when finished", x.merge(1), 1);
        x.addIssue(1, 1);
        x.pass(1);
        x.delete(1, 0);
        Check.due("4: it is free when printed", x.merge(1), 0);
        Drafts.textIs(x, "2");
    }

    private static void mergeFreeAgain() {
        DraftCommon x = Drafts.withWords(2);
        x.merge(1);
        x.order(0, 0, 1);
        x.type(1, 1, 10);
        x.cancel(0);
        Check.due("4: what counts is the time of the merge", x.merge(1), 0);
        Drafts.textIs(x, "0 2 1");
        x.type(1, 1, 11);
        x.order(0, 0, 2);
        Check.due("4: frozen after the typing", x.merge(1), 1);
        Drafts.textIs(x, "0 2 1");
    }

    private static void copyAndCopyAt() {
        DraftCommon x = Drafts.withWords(3);
        Check.due("5: copy", x.copy(0), 3);
        Check.due("5: not yet merged", x.copy(5), 0);
        x.type(0, 3, 5);
        x.delete(0, 0);
        x.delete(0, 0);
        Check.due("5: copy", x.copy(0), 2);
        Check.due("6: copyAt 0", x.copyAt(0, 0), 2);
        Check.due("6: copyAt 1", x.copyAt(0, 1), 3);
        Check.noPlace("6: place 2", () -> x.copyAt(0, 2));
        Check.noPlace("6: place -1", () -> x.copyAt(0, -1));
        Check.noPlace("6: writer 6", () -> x.copyAt(6, 0));
        Check.noPlace("6: writer -1", () -> x.copyAt(-1, 0));
        Check.noPlace("5: writer 6", () -> x.copy(6));
        Check.noPlace("5: writer -1", () -> x.copy(-1));
    }

    private static void changes() {
        DraftCommon x = new DraftCommon();
        x.type(3, 0, 1);
        x.type(3, 1, 1);
        x.delete(3, 0);
        Check.due("7: each change counts", x.changes(3), 3);
        Check.due("7: of this writer", x.changes(2), 0);
        x.merge(2);
        Check.due("7: another's merge", x.changes(3), 3);
        x.merge(3);
        Check.due("7: merged", x.changes(3), 0);
        Check.noPlace("7: writer 6", () -> x.changes(6));
        Check.noPlace("7: writer -1", () -> x.changes(-1));
    }

    private static void manyChanges() {
        DraftCommon x = new DraftCommon();
        for (int i = 0; i < 200; i++) {
            x.type(0, i, 1);
        }
        for (int i = 0; i < 100; i++) {
            Check.due("3: the first one", x.delete(0, 0), i);
        }
        Check.due("7: none is lost", x.changes(0), 300);
        Check.due("4: none is refused", x.merge(0), 0);
        Check.due("8: what is left", x.length(), 100);
        Check.due("9: the first of them", x.wordAt(0), 100);
        Check.due("12: share", x.share(0), 100);
        Check.due("13: shareAnew", x.shareAnew(0), 100);
        for (int i = 0; i < 100; i++) {
            x.delete(0, 0);
        }
        x.merge(0);
        Check.due("12: share of nothing", x.share(0), 0);
        Check.due("13: shareAnew of nothing", x.shareAnew(0), 0);
    }
}
