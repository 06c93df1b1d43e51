import java.util.ArrayList;
import java.util.Arrays;
import java.util.List;
import java.util.Random;
import java.util.function.Supplier;

/**
 * A run of calls on one new object, at most 512 as the document has it. A refused call is looked at from all
 * sides: two more objects, one with the call and one without it, must answer the same from then on.
 */
final class Play {
    static final int MOST_CALLS = 512;

    private static final List<String> NAMES = Arrays.asList(Calls.NAMES);
    private static final int[] FAR = {Integer.MIN_VALUE, Integer.MIN_VALUE + 1, Integer.MAX_VALUE};
    private static final int WALKS = 3;
    private static final int LONGEST_WALK = 60;
    private static final String[] STEPS = {
        "type", "type", "type", "delete", "delete", "merge", "merge", "merge", "setRate", "order", "order", "finish",
        "cancel", "addIssue", "pass", "waiting", "wordAt", "royalties", "earned", "comment", "span", "keep", "compare",
    };

    private final String promise;
    private final DraftCommon x = new DraftCommon();
    private final List<int[]> calls = new ArrayList<>();

    private Play(String promise) {
        this.promise = promise;
    }

    static Play begin(String promise) {
        return new Play(promise);
    }

    /** Writer 0 has typed and merged words 0 to count - 1, in this order, which takes count + 1 calls. */
    static Play withWords(String promise, int count) {
        Play play = new Play(promise);
        for (int i = 0; i < count; i++) {
            play.due(i, "type", 0, i, i);
        }
        return play.due(0, "merge", 0);
    }

    /** Like withWords, but each word is typed ahead of the others: the text is count - 1 down to 0. */
    static Play withWordsBackwards(String promise, int count) {
        Play play = new Play(promise);
        for (int i = 0; i < count; i++) {
            play.due(i, "type", 0, 0, i);
        }
        return play.due(0, "merge", 0);
    }

    /** Makes a call whose answer does not matter here; it must not throw. */
    Play call(String name, int... arguments) {
        long got = answer(name, arguments);
        check(got > Calls.NO_STATE, () -> told(name, arguments, got, "an answer"));
        return this;
    }

    Play due(long want, String name, int... arguments) {
        long got = answer(name, arguments);
        check(got == want, () -> told(name, arguments, got, "" + want));
        return this;
    }

    Play noPlace(String name, int... arguments) {
        return refused(Calls.NO_PLACE, name, arguments);
    }

    Play noArgument(String name, int... arguments) {
        return refused(Calls.NO_ARGUMENT, name, arguments);
    }

    Play noState(String name, int... arguments) {
        return refused(Calls.NO_STATE, name, arguments);
    }

    /** There is no such number or place: below 0, from count on, and far outside, as the argument at a position. */
    Play noPlaceFrom(int count, int position, String name, int... arguments) {
        for (int value : outside(0, count - 1)) {
            noPlace(name, with(arguments, position, value));
        }
        return this;
    }

    /** Out of range: right below the least, right above the greatest, and far outside. */
    Play noArgumentOutside(int least, int greatest, int position, String name, int... arguments) {
        for (int value : outside(least, greatest)) {
            noArgument(name, with(arguments, position, value));
        }
        return this;
    }

    /** The numbers of the words of the text, one behind the other. */
    Play textIs(String want) {
        StringBuilder text = new StringBuilder();
        long length = answer("length");
        for (int place = 0; place < length; place++) {
            text.append(answer("wordAt", place)).append(' ');
        }
        check(text.toString().trim().equals(want), () -> "the text is " + text + ", due is " + want);
        return this;
    }

    Play copyIs(int writer, String want) {
        StringBuilder text = new StringBuilder();
        long length = answer("copy", writer);
        for (int place = 0; place < length; place++) {
            text.append(answer("copyAt", writer, place)).append(' ');
        }
        check(text.toString().trim().equals(want), () -> "the copy is " + text + ", due is " + want);
        return this;
    }

    private Play refused(long want, String name, int... arguments) {
        long got = answer(name, arguments);
        check(got == want, () -> told(name, arguments, got, told(want)));
        if (got <= Calls.NO_STATE && Check.failedSoFar() < Check.MOST_TOLD) {
            changesNothing();
        }
        return this;
    }

    private long answer(String name, int... arguments) {
        int[] call = {NAMES.indexOf(name), 0, 0, 0};
        if (Calls.TAKES[call[0]] != arguments.length) {
            throw new IllegalArgumentException(name + " takes " + Calls.TAKES[call[0]]);
        }
        System.arraycopy(arguments, 0, call, 1, arguments.length);
        calls.add(call);
        check(calls.size() <= MOST_CALLS, () -> "the test makes more calls than the document allows");
        return made(x, call);
    }

    private static long made(DraftCommon on, int[] call) {
        return Calls.answer(on, call[0], call[1], call[2], call[3]);
    }

    // ---- a call that throws changes nothing

    private void changesNothing() {
        List<int[]> readings = readings();
        int chunk = MOST_CALLS - calls.size();
        for (int from = 0; from < readings.size() && chunk > 0; from += chunk) {
            answersAreTheSame(readings.subList(from, Math.min(readings.size(), from + chunk)));
        }
        for (int seed = 0; seed < WALKS; seed++) {
            answersAreTheSame(walk(seed, Math.min(LONGEST_WALK, chunk)));
        }
    }

    private void answersAreTheSame(List<int[]> further) {
        DraftCommon refusing = played(calls.size());
        DraftCommon without = played(calls.size() - 1);
        for (int[] call : further) {
            long got = made(refusing, call);
            long want = made(without, call);
            int[] last = calls.get(calls.size() - 1);
            check(got == want, () -> told(last) + " threw, and then " + told(call) + " answered " + told(got)
                    + ", without it " + told(want));
            if (got != want) {
                return;
            }
        }
    }

    private DraftCommon played(int count) {
        DraftCommon twin = new DraftCommon();
        for (int i = 0; i < count; i++) {
            made(twin, calls.get(i));
        }
        return twin;
    }

    /** All that the calls that change nothing can tell of the object. */
    private List<int[]> readings() {
        List<int[]> all = new ArrayList<>();
        add(all, 1, "length", "today");
        add(all, 6, "copy", "changes", "share", "shareAnew", "royalties", "earned");
        add(all, made("type") + 1, "wordAt", "word", "placeOf", "frozenBy");
        add(all, made("order") + 1, "stateOf", "waiting");
        add(all, made("addIssue") + 1, "printed");
        add(all, made("comment") + 1, "span");
        for (int writer = 0; writer < 6; writer++) {
            for (int place = 0; place <= made("type"); place++) {
                all.add(new int[] {NAMES.indexOf("copyAt"), writer, place, 0});
            }
        }
        for (int version = 0; version <= made("keep"); version++) {
            all.add(new int[] {NAMES.indexOf("compare"), 0, version, 0});
            all.add(new int[] {NAMES.indexOf("compare"), version, 0, 0});
        }
        return all;
    }

    private static void add(List<int[]> all, int count, String... names) {
        for (String name : names) {
            for (int i = 0; i < count; i++) {
                all.add(new int[] {NAMES.indexOf(name), i, 0, 0});
            }
        }
    }

    private int made(String name) {
        return (int) calls.stream().filter(call -> call[0] == NAMES.indexOf(name)).count();
    }

    /** Calls that change much, so that what no reading tells comes to light. */
    private List<int[]> walk(int seed, int length) {
        Random random = new Random(seed);
        List<int[]> all = new ArrayList<>();
        int words = Math.max(2, made("type"));
        for (int i = 0; i < length; i++) {
            String name = STEPS[random.nextInt(STEPS.length)];
            all.add(step(name, random, words));
        }
        return all;
    }

    private int[] step(String name, Random random, int words) {
        int call = NAMES.indexOf(name);
        int place = random.nextInt(words);
        int writer = random.nextInt(6);
        switch (name) {
            case "type": return new int[] {call, writer, random.nextBoolean() ? 0 : place, random.nextInt(1000)};
            case "delete": return new int[] {call, writer, random.nextBoolean() ? 0 : place, 0};
            case "setRate": return new int[] {call, random.nextInt(4), random.nextInt(101), 0};
            case "order": return new int[] {call, random.nextInt(4), place, place + random.nextInt(2)};
            case "finish": return new int[] {call, random.nextInt(made("order") + 1), random.nextInt(10), 0};
            case "cancel": return new int[] {call, random.nextInt(made("order") + 1), 0, 0};
            case "addIssue": return new int[] {call, 1 + random.nextInt(12), 1 + random.nextInt(9), 0};
            case "pass": return new int[] {call, 1 + random.nextInt(5), 0, 0};
            case "comment": return new int[] {call, place, place + random.nextInt(3), 0};
            case "merge": case "royalties": return new int[] {call, writer, 0, 0};
            default: return new int[] {call, random.nextInt(3), random.nextInt(3), 0};
        }
    }

    // ---- what is outside, and what is told

    private static int[] outside(int least, int greatest) {
        int[] all = Arrays.copyOf(FAR, FAR.length + 2);
        all[FAR.length] = least - 1;
        all[FAR.length + 1] = greatest + 1;
        return all;
    }

    private static int[] with(int[] arguments, int position, int value) {
        int[] all = arguments.clone();
        all[position] = value;
        return all;
    }

    private String told(String name, int[] arguments, long got, String want) {
        int[] call = Arrays.copyOf(arguments, 3);
        return Calls.told(NAMES.indexOf(name), call[0], call[1], call[2]) + " answered " + told(got)
                + ", due is " + want;
    }

    private void check(boolean holds, Supplier<String> what) {
        Check.that(holds ? "" : promise + ": " + what.get() + behind(), holds);
    }

    private static String told(int[] call) {
        return Calls.told(call[0], call[1], call[2], call[3]);
    }

    private static String told(long answer) {
        if (answer == Calls.NO_PLACE) {
            return "IndexOutOfBoundsException";
        }
        if (answer == Calls.NO_ARGUMENT) {
            return "IllegalArgumentException";
        }
        return answer == Calls.NO_STATE ? "IllegalStateException" : "" + answer;
    }

    private String behind() {
        StringBuilder text = new StringBuilder(" (call " + calls.size() + " of");
        for (int i = Math.max(0, calls.size() - 20); i < calls.size(); i++) {
            text.append(i > 0 && i == calls.size() - 20 ? " .. " : " ").append(told(calls.get(i)));
        }
        return text.append(')').toString();
    }
}
