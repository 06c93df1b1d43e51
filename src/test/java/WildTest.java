import java.lang.management.ManagementFactory;
import java.util.Random;

/** Whatever is called, the machine itself never throws, a call that throws changes nothing, and nothing is made. */
final class WildTest {
    private static final int RUNS = 60;
    private static final int CALLS = 3000;
    private static final int[] WILD = {
        Integer.MIN_VALUE, Integer.MIN_VALUE + 1, -1001, -300, -2, -1, 0, 1, 2, 3, 4, 5, 6, 9, 10, 11, 12, 19, 20, 29,
        30, 39, 40, 99, 100, 101, 199, 200, 201, 299, 300, 301, 512, 600, 999, 1000, 1001,
        Integer.MAX_VALUE - 1, Integer.MAX_VALUE,
    };

    private WildTest() {
    }

    static void run() {
        for (int seed = 0; seed < RUNS; seed++) {
            playWildly(seed);
        }
        throwingChangesNothing();
        callsMakeNothing();
    }

    private static void playWildly(int seed) {
        Random random = new Random(seed);
        DraftCommon x = new DraftCommon();
        for (int i = 0; i < CALLS; i++) {
            int call = random.nextInt(4) == 0 ? random.nextInt(3) : random.nextInt(Calls.NAMES.length);
            int a = wild(random);
            int b = wild(random);
            int c = wild(random);
            try {
                Calls.answer(x, call, a, b, c);
                Check.that("", true);
            } catch (Throwable e) {
                Check.that("run " + seed + ": " + Calls.told(call, a, b, c) + " threw " + e, false);
            }
        }
    }

    // Small ones more often, as most of the wild ones are refused at once.
    private static int wild(Random random) {
        return random.nextInt(3) == 0 ? WILD[random.nextInt(WILD.length)] : random.nextInt(7);
    }

    private static void throwingChangesNothing() {
        Random random = new Random(7);
        for (int run = 0; run < 20; run++) {
            DraftCommon x = new DraftCommon();
            for (int i = 0; i < CALLS / 4; i++) {
                String before = seen(x);
                int call = random.nextInt(Calls.NAMES.length);
                int a = wild(random);
                int b = wild(random);
                int c = wild(random);
                if (Calls.answer(x, call, a, b, c) <= Calls.NO_STATE) {
                    String told = Calls.told(call, a, b, c) + " threw and changed the state";
                    Check.that(told, before.equals(seen(x)));
                }
            }
        }
    }

    /** All that the calls that change nothing tell of an object. */
    private static String seen(DraftCommon x) {
        StringBuilder text = new StringBuilder();
        String[] plain = {"copy", "changes", "wordAt", "word", "placeOf", "share", "shareAnew", "stateOf", "frozenBy",
            "earned", "waiting", "today", "printed", "royalties", "span"};
        for (String name : plain) {
            int call = java.util.Arrays.asList(Calls.NAMES).indexOf(name);
            for (int a = 0; a < 45; a++) {
                text.append(Calls.answer(x, call, a, 0, 0)).append(' ');
            }
        }
        return text.toString();
    }

    private static void callsMakeNothing() {
        com.sun.management.ThreadMXBean bean = (com.sun.management.ThreadMXBean) ManagementFactory.getThreadMXBean();
        DraftCommon x = Drafts.withWords(200);
        x.order(0, 0, 99);
        playDearly(x);
        long thread = Thread.currentThread().getId();
        long before = bean.getThreadAllocatedBytes(thread);
        for (int i = 0; i < 10; i++) {
            playDearly(x);
        }
        long made = bean.getThreadAllocatedBytes(thread) - before;
        // What is measured may hold a few objects of the machine's own, but never a row in every round.
        Check.that("the calls made " + made + " bytes", made < 10 * 300);
    }

    private static void playDearly(DraftCommon x) {
        x.type(1, 0, 1);
        x.delete(1, 0);
        x.merge(1);
        x.comment(0, x.length() - 1);
        x.span(0);
        x.compare(x.keep(), 0);
        x.shareAnew(0);
        x.cancel(x.order(0, 150, 160));
        x.finish(x.order(0, 150 + x.today(), 150 + x.today()), 3);
        x.addIssue(x.today() + 1, 200);
        x.pass(1);
        x.waiting(0);
    }
}
