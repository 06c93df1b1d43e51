import java.util.ArrayList;
import java.util.Arrays;
import java.util.List;
import java.util.Random;

/** Made-up runs, the same in every test run, whose answers must be those of Model. */
final class ModelTest {
    private static final int RUNS = 3000;
    private static final int MOST_CALLS = 512;
    /** What every second run keeps of its calls for the readings in the end. */
    private static final int READINGS = 160;
    private static final List<String> NAMES = Arrays.asList(Calls.NAMES);

    /** How often a call is made, in the order of Calls.NAMES; a row for each kind of run. */
    private static final int[][] OFTEN = {
        {30, 14, 12, 1, 2, 1, 1, 2, 1, 2, 2, 2, 2, 8, 5, 3, 1, 2, 1, 3, 2, 3, 1, 1, 1, 4, 4, 2, 2},
        {60, 30, 9, 1, 1, 1, 1, 1, 1, 1, 1, 1, 1, 9, 2, 2, 1, 1, 1, 1, 1, 1, 1, 1, 1, 2, 2, 1, 1},
        {12, 6, 6, 1, 1, 1, 1, 1, 1, 1, 1, 1, 4, 30, 24, 6, 2, 3, 2, 12, 5, 8, 2, 4, 3, 1, 1, 1, 1},
        {90, 5, 4, 1, 1, 1, 1, 1, 1, 1, 1, 1, 1, 3, 1, 1, 1, 1, 1, 1, 1, 1, 1, 1, 1, 5, 5, 3, 3},
    };

    private ModelTest() {
    }

    static void run() {
        for (int seed = 0; seed < RUNS && Check.failedSoFar() < Check.MOST_TOLD; seed++) {
            new Run(seed).play();
        }
    }

    private static final class Run {
        private final int seed;
        private final Random random;
        private final DraftCommon real = new DraftCommon();
        private final Model model = new Model();
        private final int[] often;
        private final int total;
        private final int writers;

        Run(int seed) {
            this.seed = seed;
            random = new Random(seed);
            often = OFTEN[seed % OFTEN.length];
            total = Arrays.stream(often).sum();
            writers = 1 + random.nextInt(6);
        }

        void play() {
            List<String> told = new ArrayList<>();
            int calls = seed % 8 < 4 ? MOST_CALLS : MOST_CALLS - READINGS;
            for (int i = 0; i < calls; i++) {
                int call = pick();
                int[] arguments = arguments(NAMES.get(call));
                String text = Calls.told(call, arguments[0], arguments[1], arguments[2]);
                long want = model.answer(call, arguments[0], arguments[1], arguments[2]);
                long got = Calls.answer(real, call, arguments[0], arguments[1], arguments[2]);
                told.add(text + " = " + want);
                Check.due("run " + seed + ", call " + i + ", " + text, got, want);
                if (got != want) {
                    System.out.println("the run: " + String.join("; ", told));
                    return;
                }
            }
            readingsAreTheSame(MOST_CALLS - calls);
        }

        private int pick() {
            int left = random.nextInt(total);
            int call = 0;
            while (left >= often[call]) {
                left -= often[call];
                call++;
            }
            return call;
        }

        private int[] arguments(String name) {
            int length = model.text().size();
            int writer = near(writers);
            int copy = writer < 0 || writer >= 6 ? 3 : model.authors.get(writer).copy.size();
            switch (name) {
                case "type": return of(writer, near(copy + 1), near(1000));
                case "delete": case "copyAt": return of(writer, near(copy), 0);
                case "wordAt": return of(near(length), 0, 0);
                case "word": case "placeOf": case "frozenBy": return of(near(model.words.size()), 0, 0);
                case "setRate": return of(near(4), near(101), 0);
                case "order": return span(near(4), near(length), length);
                case "finish": return of(near(model.reviews.size()), near(10), 0);
                case "cancel": case "stateOf": return of(near(model.reviews.size()), 0, 0);
                case "earned": return of(near(4), 0, 0);
                case "addIssue": return of(model.today + near(12), random.nextBoolean() ? near(201) : near(12), 0);
                case "waiting": return of(near(6), 0, 0);
                case "pass": return of(random.nextInt(12) == 0 ? near(101) : near(5), 0, 0);
                case "printed": return of(near(model.issues.size()), 0, 0);
                case "comment": return shifted(span(0, near(length), length));
                case "span": return of(near(model.comments.size()), 0, 0);
                case "compare": return of(near(model.versions.size()), near(model.versions.size()), 0);
                default: return of(writer, 0, 0);
            }
        }

        private int[] span(int first, int from, int length) {
            int to = random.nextInt(8) == 0 ? near(length) : from + random.nextInt(6);
            return of(first, from, to);
        }

        private static int[] shifted(int[] all) {
            return of(all[1], all[2], 0);
        }

        private static int[] of(int a, int b, int c) {
            return new int[] {a, b, c};
        }

        /** Mostly 0 to count - 1, its borders more often, and seldom what lies outside. */
        private int near(int count) {
            switch (random.nextInt(24)) {
                case 0: return -1;
                case 1: return count;
                case 2: return count - 1;
                case 3: return 0;
                default: return count <= 0 ? 0 : random.nextInt(count);
            }
        }

        private void readingsAreTheSame(int count) {
            for (int i = 0; i < count; i++) {
                int call = random.nextInt(Calls.NAMES.length);
                if (changesNothing(Calls.NAMES[call])) {
                    int[] a = arguments(Calls.NAMES[call]);
                    String text = "run " + seed + ", in the end, " + Calls.told(call, a[0], a[1], a[2]);
                    Check.due(text, Calls.answer(real, call, a[0], a[1], a[2]), model.answer(call, a[0], a[1], a[2]));
                }
            }
        }

        private static boolean changesNothing(String name) {
            return !List.of("type", "delete", "merge", "setRate", "order", "finish", "cancel", "addIssue", "pass")
                    .contains(name) && !name.equals("comment") && !name.equals("keep");
        }
    }
}
