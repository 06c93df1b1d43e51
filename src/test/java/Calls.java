/** All calls of the face by number, so that runs of calls can be made up and played on anything. */
final class Calls {
    static final String[] NAMES = {
        "type", "delete", "merge", "copy", "copyAt", "changes", "length", "wordAt", "word", "placeOf", "share",
        "shareAnew", "setRate", "order", "finish", "cancel", "stateOf", "frozenBy", "earned", "addIssue", "waiting",
        "pass", "today", "printed", "royalties", "comment", "span", "keep", "compare",
    };
    static final int[] TAKES = {
        3, 2, 1, 1, 2, 1, 0, 1, 1, 1, 1,
        1, 2, 3, 2, 1, 1, 1, 1, 2, 1,
        1, 0, 1, 1, 2, 1, 0, 2,
    };

    /** What stands for an exception among the answers; no answer is so small. */
    static final long NO_PLACE = Long.MIN_VALUE, NO_ARGUMENT = NO_PLACE + 1, NO_STATE = NO_PLACE + 2;

    private Calls() {
    }

    static String told(int call, int a, int b, int c) {
        int[] all = {a, b, c};
        StringBuilder text = new StringBuilder(NAMES[call]).append('(');
        for (int i = 0; i < TAKES[call]; i++) {
            text.append(i == 0 ? "" : ", ").append(all[i]);
        }
        return text.append(')').toString();
    }

    /** The answer, or what stands for the exception; the machine's own exceptions go through. */
    static long answer(DraftCommon x, int call, int a, int b, int c) {
        try {
            return play(x, call, a, b, c);
        } catch (RuntimeException e) {
            if (e.getClass() == IndexOutOfBoundsException.class) {
                return NO_PLACE;
            }
            if (e.getClass() == IllegalArgumentException.class) {
                return NO_ARGUMENT;
            }
            if (e.getClass() == IllegalStateException.class) {
                return NO_STATE;
            }
            throw e;
        }
    }

    private static int play(DraftCommon x, int call, int a, int b, int c) {
        switch (NAMES[call]) {
            case "type": return x.type(a, b, c);
            case "delete": return x.delete(a, b);
            case "merge": return x.merge(a);
            case "copy": return x.copy(a);
            case "copyAt": return x.copyAt(a, b);
            case "changes": return x.changes(a);
            case "length": return x.length();
            case "wordAt": return x.wordAt(a);
            case "word": return x.word(a);
            case "placeOf": return x.placeOf(a);
            case "share": return x.share(a);
            case "shareAnew": return x.shareAnew(a);
            case "setRate": return x.setRate(a, b);
            case "order": return x.order(a, b, c);
            case "finish": return x.finish(a, b);
            case "cancel": return x.cancel(a);
            case "stateOf": return x.stateOf(a);
            case "frozenBy": return x.frozenBy(a);
            case "earned": return x.earned(a);
            case "addIssue": return x.addIssue(a, b);
            case "waiting": return x.waiting(a);
            case "pass": return x.pass(a);
            case "today": return x.today();
            case "printed": return x.printed(a);
            case "royalties": return x.royalties(a);
            case "comment": return x.comment(a, b);
            case "span": return x.span(a);
            case "keep": return x.keep();
            default: return x.compare(a, b);
        }
    }
}
