import java.lang.management.ManagementFactory;
import java.util.Random;

/** Whatever is called, the machine itself never throws, a call that throws changes nothing, and little is made. */
final class WildTest {
    private static final int RUNS = 400;
    private static final int CALLS = Play.MOST_CALLS;
    /** All calls of a run have room for 7.3 million fields and elements, of four bytes at the least. */
    private static final long MOST_BYTES = 4L * 7_300_000;
    private static final int[] WILD = {
        Integer.MIN_VALUE, Integer.MIN_VALUE + 1, -1001, -300, -2, -1, 0, 1, 2, 3, 4, 5, 6, 9, 10, 11, 12, 19, 20, 29,
        30, 39, 40, 99, 100, 101, 199, 200, 201, 299, 300, 301, 512, 600, 999, 1000, 1001,
        Integer.MAX_VALUE - 1, Integer.MAX_VALUE,
    };

    private WildTest() {
    }

    static void run() {
        for (int seed = 0; seed < RUNS; seed++) {
            playWildly(seed);
        }
        callsMakeLittle();
    }

    /** The second object is not told the calls that the first one refused; it must answer all others the same. */
    private static void playWildly(int seed) {
        Random random = new Random(seed);
        DraftCommon x = new DraftCommon();
        DraftCommon without = new DraftCommon();
        for (int i = 0; i < CALLS; i++) {
            int call = random.nextInt(4) == 0 ? random.nextInt(3) : random.nextInt(Calls.NAMES.length);
            int a = wild(random);
            int b = wild(random);
            int c = wild(random);
            String told = "wild run " + seed + ", call " + i + ": " + Calls.told(call, a, b, c);
            try {
                long got = Calls.answer(x, call, a, b, c);
                if (got > Calls.NO_STATE) {
                    Check.due(told + " behind refused calls", got, Calls.answer(without, call, a, b, c));
                }
            } catch (Throwable e) {
                Check.that(told + " threw " + e, false);
            }
        }
    }

    // Small ones more often, as most of the wild ones are refused at once.
    private static int wild(Random random) {
        return random.nextInt(3) == 0 ? WILD[random.nextInt(WILD.length)] : random.nextInt(7);
    }

    private static void callsMakeLittle() {
        com.sun.management.ThreadMXBean bean = (com.sun.management.ThreadMXBean) ManagementFactory.getThreadMXBean();
        long thread = Thread.currentThread().getId();
        long before = bean.getThreadAllocatedBytes(thread);
        playDearly();
        long made = bean.getThreadAllocatedBytes(thread) - before;
        Check.that("a run of dear calls made " + made + " bytes", made < MOST_BYTES);
    }

    /** Some 480 calls on a long text. */
    private static void playDearly() {
        DraftCommon x = Drafts.withWords(200);
        x.order(0, 0, 99);
        x.comment(0, 199);
        for (int i = 0; i < 19; i++) {
            x.type(1, 0, 1);
            x.delete(1, 0);
            x.merge(1);
            x.comment(0, 199);
            x.span(0);
            x.compare(x.keep(), 0);
            x.shareAnew(0);
            x.share(0);
            x.pass(1);
            x.waiting(0);
            x.cancel(i == 0 ? 0 : x.order(0, 150, 160));
        }
    }
}
