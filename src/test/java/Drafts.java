/** Objects in the states that many tests begin with. */
final class Drafts {
    private Drafts() {
    }

    /** Writer 0 has typed and merged words 0 to count - 1, in this order; each word is its number. */
    static DraftCommon withWords(int count) {
        DraftCommon x = new DraftCommon();
        for (int i = 0; i < count; i++) {
            x.type(0, i, i);
        }
        x.merge(0);
        return x;
    }

    /** The numbers of the words of the text, one behind the other. */
    static String text(DraftCommon x) {
        StringBuilder text = new StringBuilder();
        for (int place = 0; place < x.length(); place++) {
            text.append(x.wordAt(place)).append(' ');
        }
        return text.toString().trim();
    }

    static String copy(DraftCommon x, int writer) {
        StringBuilder text = new StringBuilder();
        for (int place = 0; place < x.copy(writer); place++) {
            text.append(x.copyAt(writer, place)).append(' ');
        }
        return text.toString().trim();
    }

    static void textIs(DraftCommon x, String want) {
        Check.that("the text is " + text(x) + ", due is " + want, text(x).equals(want));
    }

    static void copyIs(DraftCommon x, int writer, String want) {
        Check.that("the copy is " + copy(x, writer) + ", due is " + want, copy(x, writer).equals(want));
    }
}
