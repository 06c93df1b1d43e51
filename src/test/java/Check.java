/** Counts what was checked and prints what is not as it is due. */
final class Check {
    /** A call whose answer or exception is looked at. */
    interface Call {
        int run();
    }

    static final int MOST_TOLD = 50;

    private static int passed = 0;
    private static int failed = 0;

    private Check() {
    }

    static void due(String what, long got, long want) {
        that(what + " answered " + got + ", due is " + want, got == want);
    }

    /** The very class is due: an ArrayIndexOutOfBoundsException is the machine's, not ours. */
    static void thrown(String what, Class<? extends RuntimeException> kind, Call call) {
        try {
            that(what + " answered " + call.run() + ", due is " + kind.getSimpleName(), false);
        } catch (RuntimeException e) {
            that(what + " threw " + e + ", due is " + kind.getSimpleName(), e.getClass() == kind);
        }
    }

    static void noPlace(String what, Call call) {
        thrown(what, IndexOutOfBoundsException.class, call);
    }

    static void noArgument(String what, Call call) {
        thrown(what, IllegalArgumentException.class, call);
    }

    static void noState(String what, Call call) {
        thrown(what, IllegalStateException.class, call);
    }

    static void that(String what, boolean holds) {
        if (holds) {
            passed++;
            return;
        }
        failed++;
        if (failed <= MOST_TOLD) {
            System.out.println("WRONG: " + what);
        }
    }

    static int failedSoFar() {
        return failed;
    }

    static void close() {
        System.out.println(passed + " passed, " + failed + " failed");
        if (failed > 0 || passed == 0) {
            System.exit(1);
        }
    }
}
