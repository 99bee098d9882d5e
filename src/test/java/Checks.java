import java.util.List;
import java.util.function.Supplier;
import java.util.function.ToIntFunction;

/** What the tests of boundary cases share: each check stands under a sentence of the document. */
abstract class Checks {
    static final int BAD = CrashRounds.BAD;
    static final int NONE = CrashRounds.NONE;
    static final int BIG = CrashRounds.BIG;
    static final int FAR = Integer.MAX_VALUE;
    static final int LOW = Integer.MIN_VALUE;

    /** T + 1 with the greatest T. */
    static final int MOST_ROUNDS = 4;

    static final int FLOOD = 0;
    static final int EARLY = 1;
    static final int UNIFORM = 2;
    static final int LEAST = 3;
    static final int VECTOR = 4;
    static final int COMMIT = 5;
    static final int ROTOR = 6;

    /** One of each kind of state in which a call can come. */
    static final List<Supplier<CrashRounds>> ALL_STATES = List.of(
            CrashRounds::new, Checks::prepared, Checks::underWay, Checks::over, Checks::withFound);
    static final List<Supplier<CrashRounds>> BEHIND_A_ROUND =
            List.of(Checks::underWay, Checks::over);
    static final List<Supplier<CrashRounds>> NOTHING_FOUND =
            List.of(CrashRounds::new, Checks::prepared, Checks::underWay, Checks::over);

    private static String sentence = "";
    private static int sentences = 0;
    private static int checks = 0;
    private static int wrong = 0;

    static void sentence(String words) {
        sentence = words;
        sentences++;
    }

    static void due(String call, int got, int want) {
        checks++;
        if (got != want) {
            tell(call + " answered " + got + ", due is " + want);
        }
    }

    static void same(String what, String got, String want) {
        checks++;
        if (!got.equals(want)) {
            tell(what + ": it is" + got + ", due is" + want);
        }
    }

    private static void tell(String what) {
        wrong++;
        System.out.println("\"" + sentence + "\": " + what);
    }

    static void finish() {
        System.out.println(sentences + " sentences, " + checks + " checks, " + wrong + " wrong");
        if (wrong != 0) {
            System.exit(1);
        }
    }

    static CrashRounds of(int algorithm, int n, int t, int k, int less, int... inputs) {
        CrashRounds x = new CrashRounds();
        x.start(algorithm, n, t, k, less);
        for (int p = 0; p < inputs.length; p++) {
            x.input(p, inputs[p]);
        }
        return x;
    }

    /** The same object, with crashes given as rows of a process, its round and its reach. */
    static CrashRounds planned(CrashRounds x, int[]... crashes) {
        for (int i = 0; i < crashes.length; i++) {
            due("crash", x.crash(crashes[i][0], crashes[i][1], crashes[i][2]), i + 1);
        }
        return x;
    }

    /** No round was made, and as many crash as may. */
    static CrashRounds prepared() {
        return planned(of(VECTOR, 5, 2, 1, 0, 4, 3, 0, 15, 1),
                new int[] {1, 2, 0b10001}, new int[] {3, 1, 0b00100});
    }

    static CrashRounds underWay() {
        CrashRounds x = prepared();
        x.step();
        return x;
    }

    static CrashRounds over() {
        CrashRounds x = prepared();
        x.run();
        return x;
    }

    /** Something was found, and this run is another one. */
    static CrashRounds withFound() {
        CrashRounds x = of(LEAST, 4, 2, 1, 1, 7, 6, 5, 4);
        x.search(2);
        x.crash(3, 1, 0b0010);
        return x;
    }

    /** A refused call answers BAD, and the object is as one that never had that call. */
    static void refused(String call, List<Supplier<CrashRounds>> states,
            ToIntFunction<CrashRounds> refusedCall) {
        for (Supplier<CrashRounds> state : states) {
            CrashRounds x = state.get();
            due(call, refusedCall.applyAsInt(x), BAD);
            same("behind the refused " + call, story(x), story(state.get()));
        }
    }

    /**
     * All that an object tells of this run and of what was found. Its calls stay far below 512
     * for 5 processes, as do those of future.
     */
    static String story(CrashRounds x) {
        String told = " found" + found(x) + future(x);
        return told + " replay " + x.replay() + state(x);
    }

    /** All that an object tells of this run now, in every round to come, and when begun anew. */
    static String future(CrashRounds x) {
        StringBuilder told = new StringBuilder(" now").append(state(x));
        for (int round = 0; round <= MOST_ROUNDS && x.step() != BAD; round++) {
            told.append(" step").append(state(x));
        }
        told.append(" again ").append(x.again()).append(" inputs and plan");
        for (int p = 0; p < x.count(0); p++) {
            told.append(' ').append(x.input(p, 0)).append(' ').append(x.spare(p));
        }
        return told.toString();
    }

    /** All that can be asked of this run. */
    static String state(CrashRounds x) {
        StringBuilder told = new StringBuilder();
        for (int which = 0; which <= 8; which++) {
            told.append(' ').append(x.count(which));
        }
        told.append(' ').append(x.breach());
        boolean holdsVectors = x.vector(0, 0) != BAD;
        int n = x.count(0);
        for (int p = 0; p < n; p++) {
            told.append(' ').append(x.decided(p)).append(' ').append(x.decidedIn(p));
            told.append(' ').append(x.knows(p)).append(' ').append(x.heard(p));
            for (int q = 0; q < n && holdsVectors; q++) {
                told.append(' ').append(x.vector(p, q));
            }
        }
        return told.toString();
    }

    /** All that can be asked of what was found. */
    static String found(CrashRounds x) {
        StringBuilder told = new StringBuilder();
        told.append(' ').append(x.found(0, 0)).append(' ').append(x.found(1, 0));
        for (int j = 0; j <= 3; j++) {
            for (int which = 2; which <= 4; which++) {
                told.append(' ').append(x.found(which, j));
            }
        }
        for (int p = 0; p < x.count(0); p++) {
            told.append(' ').append(x.found(5, p));
        }
        return told.toString();
    }
}
