/** Each promise by hand: ordinary inputs, the edges that the document names, and wrong inputs. */
public final class PromisesTest {
    private static final int BAD = CrashRounds.BAD;
    private static final int NONE = CrashRounds.NONE;
    private static final int BIG = CrashRounds.BIG;
    private static final int FAR = Integer.MAX_VALUE;
    private static final int LOW = Integer.MIN_VALUE;

    private static int wrong = 0;
    private static int promise = 0;
    private static int row = 0;

    private static void promise(int number) {
        promise = number;
        row = 0;
    }

    /** The row is the number of the check within its promise. */
    private static void due(int got, int want) {
        row++;
        if (got != want) {
            wrong++;
            System.out.println("promise " + promise + ", check " + row + ": answered " + got
                    + ", due is " + want);
        }
    }

    private static CrashRounds of(int algorithm, int n, int t, int k, int less, int... inputs) {
        CrashRounds x = new CrashRounds();
        x.start(algorithm, n, t, k, less);
        for (int p = 0; p < inputs.length; p++) {
            x.input(p, inputs[p]);
        }
        return x;
    }

    public static void main(String[] args) {
        aNewObject();
        start();
        input();
        crash();
        spare();
        stepAndRun();
        again();
        decidedByFloodAndLeast();
        decidedByEarly();
        decidedByUniform();
        decidedByVectorsAndRotor();
        knows();
        vector();
        heard();
        count();
        breach();
        search();
        searchSize();
        found();
        replay();
        System.out.println(wrong == 0 ? "all promises hold" : wrong + " answers are not as due");
        if (wrong != 0) {
            System.exit(1);
        }
    }

    private static void aNewObject() {
        promise(1);
        CrashRounds x = new CrashRounds();
        int[] counts = {4, 1, 2, 0, 0, 0, 2, 15, 0};
        for (int which = 0; which < counts.length; which++) {
            due(x.count(which), counts[which]);
        }
        for (int p = 0; p < 4; p++) {
            due(x.knows(p), 1);
            due(x.heard(p), 4);
            due(x.decided(p), NONE);
            due(x.decidedIn(p), 0);
        }
        due(x.vector(0, 0), BAD);
        due(x.found(0, 0), BAD);
        due(x.replay(), BAD);
        due(x.breach(), BAD);
        due(x.crash(0, 1, 0), 1);
        due(x.crash(1, 1, 0), BAD);
    }

    private static void start() {
        promise(2);
        CrashRounds x = new CrashRounds();
        for (int algorithm = 0; algorithm <= 6; algorithm++) {
            due(x.start(algorithm, 8, 3, 1, 0), 4);
            due(x.start(algorithm, 8, 3, 1, 1), 3);
            due(x.start(algorithm, 8, 3, 1, 2), 2);
            due(x.start(algorithm, 8, 0, 1, 0), 1);
            due(x.start(algorithm, 2, 1, 1, 2), 1);
            due(x.start(algorithm, 8, 3, 2, 0), algorithm == 3 ? 2 : 4);
            due(x.start(algorithm, 8, 3, 3, 0), algorithm == 3 ? 2 : 4);
            due(x.start(algorithm, 8, 2, 3, 0), algorithm == 3 ? 1 : 3);
        }
        x.start(4, 3, 2, 2, 1);
        x.input(1, 7);
        x.crash(2, 1, 1);
        x.step();
        int[][] bad = {
            {-1, 4, 1, 1, 0}, {7, 4, 1, 1, 0}, {LOW, 4, 1, 1, 0}, {FAR, 4, 1, 1, 0},
            {0, 1, 0, 1, 0}, {0, 9, 1, 1, 0}, {0, LOW, 1, 1, 0}, {0, FAR, 1, 1, 0},
            {0, 4, -1, 1, 0}, {0, 8, 4, 1, 0}, {0, 2, 2, 1, 0}, {0, 3, 3, 1, 0}, {0, 4, LOW, 1, 0},
            {0, 4, 1, 0, 0}, {0, 4, 1, 4, 0}, {3, 4, 1, 0, 0}, {3, 4, 1, -1, 0}, {0, 4, 1, FAR, 0},
            {0, 4, 1, 1, -1}, {0, 4, 1, 1, 3}, {0, 4, 1, 1, FAR}, {0, 4, 1, 1, LOW}
        };
        for (int[] b : bad) {
            due(x.start(b[0], b[1], b[2], b[3], b[4]), BAD);
        }
        // A refused start leaves the run as it was.
        due(x.count(0), 3);
        due(x.count(3), 1);
        due(x.count(5), 1);
        due(x.vector(0, 1), 7);
        // A start forgets inputs, plan, rounds and what was found.
        x.start(1, 4, 1, 1, 1);
        due(x.search(2), 1);
        due(x.start(0, 9, 1, 1, 0), BAD);
        due(x.found(0, 0), 1);
        due(x.start(1, 4, 1, 1, 1), 1);
        due(x.found(0, 0), BAD);
        due(x.replay(), BAD);
        due(x.input(1, 3), 0);
        due(x.spare(2), 0);
        due(x.count(3), 0);
        due(x.count(7), 15);
    }

    private static void input() {
        promise(3);
        CrashRounds x = of(0, 8, 3, 1, 0);
        due(x.input(7, 15), 0);
        due(x.input(7, 0), 15);
        due(x.input(7, 9), 0);
        due(x.knows(7), 1 << 9);
        int[][] bad = {{-1, 0}, {8, 0}, {FAR, 0}, {LOW, 0}, {7, -1}, {7, 16}, {7, FAR}, {7, LOW}};
        for (int[] b : bad) {
            due(x.input(b[0], b[1]), BAD);
        }
        due(x.input(7, 9), 9);
        x.step();
        due(x.input(7, 9), BAD);
        x.again();
        due(x.input(7, 1), 9);
        x.start(0, 2, 1, 1, 0);
        due(x.input(2, 1), BAD);
        due(x.input(1, 1), 0);
    }

    private static void crash() {
        promise(4);
        CrashRounds x = of(0, 5, 2, 1, 0);
        int[][] bad = {
            {-1, 1, 0}, {5, 1, 0}, {FAR, 1, 0}, {LOW, 1, 0}, {0, 0, 0}, {0, 21, 0}, {0, LOW, 0},
            {0, FAR, 0}, {0, 1, 32}, {0, 1, -1}, {0, 1, LOW}, {0, 1, FAR}
        };
        for (int[] b : bad) {
            due(x.crash(b[0], b[1], b[2]), BAD);
        }
        due(x.count(5), 0);
        due(x.crash(4, 20, 31), 1);
        due(x.count(5), 0);
        due(x.crash(4, 1, 31), 1);
        due(x.count(5), 1);
        due(x.crash(0, 3, 0), 2);
        due(x.crash(1, 1, 0), BAD);
        due(x.crash(0, 2, 0), 2);
        due(x.spare(4), 1);
        due(x.crash(1, 1, 1), 2);
        x.step();
        due(x.crash(1, 1, 0), BAD);
        // Process 1 reached process 0 alone, the four others all others.
        due(x.count(4), 17);
        due(x.crash(0, 2, 0), BAD);
        due(of(0, 4, 0, 1, 0).crash(0, 1, 0), BAD);
        // Its own bit does not matter: neither is a letter for it, nor does it get one.
        CrashRounds own = of(0, 3, 1, 1, 0, 1, 2, 3);
        own.crash(0, 1, 3);
        own.step();
        due(own.count(4), 5);
        due(own.heard(0), 3);
        due(own.knows(0), 2);
        due(own.knows(1), 14);
        due(own.knows(2), 12);
    }

    private static void spare() {
        promise(5);
        CrashRounds x = of(0, 4, 1, 1, 0);
        due(x.spare(0), 0);
        due(x.crash(0, 1, 0), 1);
        due(x.spare(1), 0);
        due(x.crash(1, 1, 0), BAD);
        due(x.spare(0), 1);
        due(x.spare(0), 0);
        due(x.crash(1, 1, 0), 1);
        due(x.crash(1, 20, 0), 1);
        due(x.spare(1), 1);
        due(x.spare(-1), BAD);
        due(x.spare(4), BAD);
        due(x.spare(FAR), BAD);
        due(x.spare(LOW), BAD);
        x.crash(2, 2, 0);
        x.step();
        due(x.spare(2), BAD);
        due(x.spare(0), BAD);
        x.step();
        due(x.count(7), 11);
        x.again();
        due(x.spare(2), 1);
        x.run();
        due(x.count(7), 15);
    }

    private static void stepAndRun() {
        promise(6);
        CrashRounds x = of(0, 5, 3, 1, 0);
        for (int round = 1; round <= 4; round++) {
            due(x.step(), round);
            due(x.count(3), round);
        }
        due(x.step(), BAD);
        due(x.count(3), 4);
        due(x.count(4), 80);
        promise(7);
        due(x.run(), 4);
        due(x.count(4), 80);
        x.again();
        due(x.step(), 1);
        due(x.run(), 4);
        due(x.count(3), 4);
        due(x.count(4), 80);
        due(x.step(), BAD);
        x.again();
        due(x.run(), 4);
        due(x.count(4), 80);
        due(of(3, 4, 3, 3, 2).run(), 1);
    }

    private static void again() {
        promise(8);
        CrashRounds x = of(2, 4, 2, 1, 0, 4, 3, 2, 1);
        x.crash(3, 2, 0);
        due(x.again(), 0);
        x.step();
        due(x.again(), 1);
        due(x.again(), 0);
        x.run();
        due(x.count(8), 15);
        due(x.again(), 3);
        due(x.count(3), 0);
        due(x.count(4), 0);
        due(x.count(7), 15);
        due(x.count(8), 0);
        due(x.count(5), 1);
        for (int p = 0; p < 4; p++) {
            due(x.knows(p), 4 - p);
            due(x.decided(p), NONE);
            due(x.decidedIn(p), 0);
            due(x.heard(p), 4);
        }
        due(x.spare(3), 1);
        due(x.input(0, 0), 4);
        // What was found is not gone.
        x.start(1, 4, 1, 1, 1);
        x.search(2);
        x.again();
        due(x.found(0, 0), 1);
    }

    private static void decidedByFloodAndLeast() {
        promise(9);
        for (int algorithm = 0; algorithm <= 3; algorithm += 3) {
            CrashRounds x = of(algorithm, 4, 2, 1, 0, 9, 8, 7, 6);
            x.crash(3, 1, 4);
            x.crash(2, 3, 0);
            x.step();
            x.step();
            due(x.decided(0), NONE);
            x.step();
            due(x.decided(0), 6);
            due(x.decided(1), 6);
            // Who crashes in the last round is down behind it.
            due(x.decided(2), NONE);
            due(x.decided(3), NONE);
            due(x.decidedIn(0), 3);
            due(x.decidedIn(2), 0);
        }
        CrashRounds x = new CrashRounds();
        x.run();
        due(x.decided(-1), BAD);
        due(x.decided(4), BAD);
        due(x.decided(FAR), BAD);
        due(x.decided(LOW), BAD);
        promise(10);
        due(x.decidedIn(3), 2);
        due(x.decidedIn(-1), BAD);
        due(x.decidedIn(4), BAD);
        due(x.decidedIn(FAR), BAD);
        due(x.decidedIn(LOW), BAD);
    }

    private static void decidedByEarly() {
        promise(10);
        CrashRounds calm = of(1, 4, 3, 1, 0, 5, 6, 7, 8);
        calm.step();
        due(calm.decidedIn(0), 1);
        due(calm.decided(3), 5);
        calm.run();
        due(calm.decidedIn(0), 1);
        // Process 3 decides in round 1 already, from the letter that none else got, and is sound.
        CrashRounds x = of(1, 4, 2, 1, 0, 1, 6, 7, 8);
        x.crash(0, 1, 8);
        x.step();
        due(x.decidedIn(3), 1);
        due(x.decided(3), 1);
        due(x.decided(1), NONE);
        x.step();
        due(x.decidedIn(1), 2);
        due(x.decided(1), 1);
        // It goes on as before: a later crash in the plan still takes its letters away.
        CrashRounds y = of(1, 4, 2, 1, 0, 1, 6, 7, 8);
        y.crash(0, 1, 8);
        y.crash(3, 2, 2);
        y.run();
        due(y.decided(3), 1);
        due(y.decidedIn(1), 2);
        due(y.decided(1), 1);
        due(y.decidedIn(2), 3);
        due(y.decided(2), 1);
        due(y.count(4), 3 * 3 + 1 + 2 * 3 + 1 + 2 * 3);
    }

    private static void decidedByUniform() {
        promise(9);
        // The mark of round 1 stands in the letters of round 2, and is decided on there.
        CrashRounds calm = of(2, 3, 2, 1, 0, 5, 6, 7);
        calm.step();
        due(calm.decided(0), NONE);
        due(calm.count(8), 7);
        calm.step();
        due(calm.decided(2), 5);
        due(calm.decidedIn(2), 2);
        // Process 1 sent a mark in the round in which it crashes: it is down, so it does not decide.
        CrashRounds x = of(2, 4, 2, 1, 0, 1, 6, 7, 8);
        x.crash(0, 1, 2);
        x.crash(1, 2, 4);
        x.step();
        due(x.count(8), 2);
        x.step();
        due(x.decided(1), NONE);
        // Process 2 has its mark by that letter, 3 none: it heard from two, and from three before.
        due(x.count(8), 6);
        due(x.heard(3), 2);
        x.step();
        due(x.decided(2), 1);
        due(x.decided(3), 1);
        due(x.decidedIn(3), 3);
        due(x.count(8), 14);
        // With one round alone nobody can have sent a mark: all decide what they know then.
        CrashRounds one = of(2, 4, 1, 1, 1, 1, 6, 7, 8);
        one.crash(0, 1, 2);
        one.run();
        due(one.decided(1), 1);
        due(one.decided(2), 6);
        due(one.decided(0), NONE);
        // Round R alone gives no mark; that 1 heard from as many in it does.
        due(one.count(8), 2);
        due(one.breach(), 1);
        // A mark that comes in round R stands in no letter: what is known then is decided.
        CrashRounds y = of(2, 5, 3, 1, 2, 1, 5, 6, 7, 8);
        y.crash(0, 1, 2);
        y.crash(1, 2, 4);
        y.run();
        due(y.count(8) & 4, 4);
        due(y.knows(2), 1);
        due(y.decided(2), 1);
        due(y.decided(3), 5);
        due(y.breach(), 1);
    }

    private static void decidedByVectorsAndRotor() {
        promise(9);
        CrashRounds x = of(4, 4, 1, 1, 1, 1, 2, 3, 4);
        x.crash(0, 1, 4);
        x.run();
        due(x.decided(0), NONE);
        due(x.decided(1), 3);
        due(x.decided(2), 4);
        CrashRounds y = of(5, 3, 1, 1, 0, 1, 2, 3);
        y.run();
        due(y.decided(2), 1);
        y.again();
        y.input(1, 0);
        y.run();
        due(y.decided(2), 0);
        y.again();
        y.input(1, 2);
        y.crash(0, 1, 0);
        y.run();
        due(y.decided(1), 0);
        due(y.breach(), 0);
        // ROTOR: 0 reaches 2 alone; then 1 sends what it knows, to all.
        CrashRounds z = of(6, 4, 1, 1, 0, 9, 3, 5, 7);
        z.crash(0, 1, 4);
        z.step();
        due(z.knows(1), 3);
        due(z.knows(2), 9);
        due(z.knows(3), 7);
        due(z.count(4), 1);
        due(z.heard(1), 0);
        due(z.heard(2), 1);
        due(z.heard(0), 4);
        z.step();
        due(z.knows(2), 3);
        due(z.decided(3), 3);
        due(z.decided(1), 3);
        due(z.decided(0), NONE);
        due(z.heard(1), 1);
        due(z.count(4), 4);
    }

    private static void knows() {
        promise(11);
        int[] atFirst = {1 << 3, 3, 3, 3, 2, 2, 3};
        int[] behind = {1 << 9 | 1 << 3 | 1 << 15, 3, 3, 3, 7, 7, 9};
        for (int algorithm = 0; algorithm <= 6; algorithm++) {
            CrashRounds x = of(algorithm, 3, 2, 1, 0, 9, 3, 15);
            due(x.knows(1), atFirst[algorithm]);
            x.crash(2, 2, 0);
            x.step();
            due(x.knows(1), behind[algorithm]);
            due(x.knows(2), behind[algorithm]);
            due(x.knows(-1), BAD);
            due(x.knows(3), BAD);
            due(x.knows(FAR), BAD);
            due(x.knows(LOW), BAD);
        }
        // What was got comes at once: 1 passes on in round 2 only what it got in round 1.
        CrashRounds x = of(0, 4, 2, 1, 0, 0, 1, 2, 3);
        x.crash(0, 1, 2);
        x.step();
        due(x.knows(1), 15);
        due(x.knows(2), 14);
        due(x.knows(0), 1);
        x.step();
        due(x.knows(2), 15);
        due(x.knows(0), 1);
    }

    private static void vector() {
        promise(12);
        for (int algorithm = 0; algorithm <= 6; algorithm++) {
            CrashRounds x = of(algorithm, 3, 1, 1, 0, 6, 0, 4);
            boolean has = algorithm == 4 || algorithm == 5;
            due(x.vector(0, 0), has ? 6 : BAD);
            due(x.vector(0, 1), has ? NONE : BAD);
            x.crash(2, 1, 2);
            x.step();
            due(x.vector(0, 1), has ? 0 : BAD);
            due(x.vector(0, 2), has ? NONE : BAD);
            due(x.vector(1, 2), has ? 4 : BAD);
            due(x.vector(2, 0), has ? NONE : BAD);
            x.step();
            due(x.vector(0, 2), has ? 4 : BAD);
            due(x.vector(-1, 0), BAD);
            due(x.vector(0, -1), BAD);
            due(x.vector(3, 0), BAD);
            due(x.vector(0, 3), BAD);
            due(x.vector(FAR, LOW), BAD);
        }
    }

    private static void heard() {
        promise(13);
        CrashRounds x = of(0, 5, 3, 1, 0);
        x.crash(0, 2, 6);
        x.crash(1, 3, 0);
        due(x.heard(4), 5);
        x.step();
        due(x.heard(4), 5);
        x.step();
        due(x.heard(0), 5);
        due(x.heard(1), 5);
        due(x.heard(2), 5);
        due(x.heard(3), 4);
        x.step();
        due(x.heard(1), 5);
        due(x.heard(2), 3);
        x.step();
        due(x.heard(2), 3);
        due(x.heard(0), 5);
        due(x.heard(-1), BAD);
        due(x.heard(5), BAD);
        due(x.heard(FAR), BAD);
        due(x.heard(LOW), BAD);
        // ROTOR: there is one letter for each at most, and none when the sender is down.
        CrashRounds y = of(6, 3, 2, 1, 0);
        y.crash(1, 1, 7);
        y.step();
        due(y.heard(0), 1);
        due(y.heard(2), 1);
        due(y.heard(1), 3);
        y.step();
        due(y.heard(0), 0);
        due(y.heard(2), 0);
        y.step();
        due(y.heard(0), 1);
    }

    private static void count() {
        promise(14);
        CrashRounds x = of(2, 6, 3, 3, 1);
        x.crash(5, 2, 63);
        x.crash(0, 4, 0);
        due(x.count(0), 6);
        due(x.count(1), 3);
        due(x.count(2), 3);
        due(x.count(3), 0);
        // Round 4 is behind R: process 0 is sound.
        due(x.count(5), 1);
        due(x.count(6), 3);
        x.step();
        due(x.count(4), 30);
        due(x.count(7), 63);
        due(x.count(8), 63);
        x.step();
        due(x.count(4), 60);
        due(x.count(7), 31);
        x.step();
        due(x.count(3), 3);
        // Letters to the one that is down count, too.
        due(x.count(4), 85);
        due(x.count(7), 31);
        due(x.count(8), 63);
        due(x.count(9), BAD);
        due(x.count(-1), BAD);
        due(x.count(FAR), BAD);
        due(x.count(LOW), BAD);
        for (int algorithm = 0; algorithm <= 6; algorithm++) {
            CrashRounds y = of(algorithm, 5, 3, 1, 0);
            due(y.count(6), algorithm == 1 || algorithm == 2 ? 2 : 4);
            y.crash(0, 1, 0);
            due(y.count(6), algorithm == 1 || algorithm == 2 ? 3 : 4);
            y.crash(1, 4, 0);
            due(y.count(6), 4);
            y.crash(2, 4, 0);
            due(y.count(5), 3);
            due(y.count(6), 4);
            y.step();
            due(y.count(8), 0);
            y.step();
            due(y.count(8), algorithm == 2 ? 30 : 0);
        }
    }

    private static void breach() {
        promise(15);
        for (int algorithm = 0; algorithm <= 6; algorithm++) {
            // One round, and the first reaches the second alone.
            CrashRounds x = of(algorithm, 4, 1, 1, 1, 1, 6, 7, 8);
            x.crash(0, 1, 2);
            due(x.breach(), BAD);
            x.run();
            due(x.breach(), 1);
            x.again();
            due(x.breach(), BAD);
            x.spare(0);
            x.run();
            due(x.breach(), 0);
        }
        // Different sets of inputs, but as many: both decide 3.
        CrashRounds v = of(4, 4, 2, 1, 2);
        v.crash(0, 1, 4);
        v.crash(1, 1, 8);
        v.run();
        due(v.decided(2), 3);
        due(v.decided(3), 3);
        due(v.breach(), 1);
        // Two decided differently: LEAST allows K of them, the others but one.
        for (int k = 1; k <= 3; k++) {
            CrashRounds x = of(3, 5, 2, k, 2, 0, 1, 2, 3, 4);
            x.crash(0, 1, 4);
            x.crash(1, 1, 8);
            x.run();
            due(x.decided(2), 0);
            due(x.decided(3), 1);
            due(x.decided(4), 2);
            due(x.breach(), k < 3 ? 1 : 0);
        }
        unsoundDecisions();
    }

    /** Process 1 decides the least value, then crashes, and nobody else ever gets that value. */
    private static void unsoundDecisions() {
        CrashRounds early = of(1, 5, 3, 1, 0, 0, 5, 6, 7, 8);
        early.crash(0, 1, 2);
        early.crash(1, 2, 0);
        early.run();
        due(early.decided(1), 0);
        due(early.decidedIn(1), 1);
        due(early.decided(2), 5);
        due(early.decided(4), 5);
        due(early.breach(), 0);
        // UNIFORM counts all that decided: here nobody does before the crash, so it holds.
        CrashRounds uniform = of(2, 5, 3, 1, 0, 0, 5, 6, 7, 8);
        uniform.crash(0, 1, 2);
        uniform.crash(1, 2, 0);
        uniform.run();
        due(uniform.decided(1), NONE);
        due(uniform.decided(4), 5);
        due(uniform.breach(), 0);
    }

    private static void search() {
        promise(16);
        CrashRounds x = of(0, 4, 1, 1, 0, 3, 1);
        x.crash(2, 1, 1);
        x.step();
        due(x.search(1), 0);
        due(x.search(2), 0);
        due(x.search(3), 0);
        due(x.search(0), BAD);
        due(x.search(4), BAD);
        due(x.search(FAR), BAD);
        due(x.search(LOW), BAD);
        // This run goes on as it was.
        due(x.count(3), 1);
        due(x.count(4), 10);
        due(x.count(7), 11);
        due(x.knows(0), 1 << 3 | 1 << 1 | 1);
        due(x.run(), 2);
        due(x.decided(3), 0);
        // With one value alone no value can differ, but the known inputs can.
        for (int algorithm = 0; algorithm <= 6; algorithm++) {
            CrashRounds y = of(algorithm, 3, 1, 1, 1);
            due(y.search(1), algorithm == 4 ? 1 : 0);
            due(y.search(2), 1);
            due(y.search(3), 1);
        }
        // A search that finds nothing: what was found is gone. One that is BAD or BIG: it stays.
        CrashRounds z = of(0, 6, 1, 1, 1);
        due(z.search(2), 1);
        due(z.search(3), BIG);
        due(z.found(0, 0), 1);
        due(z.search(4), BAD);
        due(z.found(0, 0), 1);
        due(z.search(1), 0);
        due(z.found(0, 0), BAD);
        due(z.replay(), BAD);
    }

    private static void searchSize() {
        promise(16);
        // n, T, LESS, the greatest d that is not BIG (0: none); R is T + 1 - LESS.
        int[][] sizes = {
            {2, 1, 0, 3}, {3, 2, 0, 3}, {4, 1, 0, 3}, {4, 2, 0, 2}, {4, 2, 1, 2}, {4, 2, 2, 3},
            {4, 3, 0, 0}, {4, 3, 1, 1}, {5, 1, 0, 3}, {5, 2, 0, 1}, {5, 3, 2, 0}, {6, 1, 0, 2},
            {6, 2, 1, 0}, {6, 2, 2, 1}, {7, 1, 0, 1}, {7, 1, 1, 2}, {8, 1, 0, 1}, {8, 1, 1, 1},
            {8, 0, 0, 3}, {8, 3, 0, 0}, {8, 3, 2, 0}, {7, 3, 0, 0}, {7, 2, 0, 0}
        };
        for (int[] size : sizes) {
            CrashRounds x = of(5, size[0], size[1], 1, size[2]);
            for (int d = 1; d <= 3; d++) {
                due(x.search(d) == BIG ? 1 : 0, d > size[3] ? 1 : 0);
            }
        }
    }

    private static void found() {
        promise(17);
        CrashRounds x = of(3, 4, 2, 1, 1);
        due(x.count(2), 2);
        due(x.found(0, 0), BAD);
        due(x.search(2), 1);
        // A chain: 0 reaches 1 alone in round 1, and 1 one of the two others in round 2.
        int[] crashes = {2, 0, 1, 2, 1, 2, 4};
        due(x.found(0, 0), 1);
        due(x.found(1, 0), crashes[0]);
        for (int j = 0; j < 2; j++) {
            due(x.found(2, j), crashes[1 + 3 * j]);
            due(x.found(3, j), crashes[2 + 3 * j]);
            due(x.found(4, j), crashes[3 + 3 * j]);
        }
        int[] inputs = {0, 1, 1, 1};
        for (int p = 0; p < 4; p++) {
            due(x.found(5, p), inputs[p]);
        }
        for (int which = 2; which <= 4; which++) {
            due(x.found(which, 2), BAD);
            due(x.found(which, -1), BAD);
            due(x.found(which, FAR), BAD);
            due(x.found(which, LOW), BAD);
        }
        due(x.found(5, 4), BAD);
        due(x.found(5, -1), BAD);
        due(x.found(5, FAR), BAD);
        due(x.found(6, 0), BAD);
        due(x.found(-1, 0), BAD);
        due(x.found(LOW, 0), BAD);
        // Neither changes of this run nor its rounds touch what was found.
        x.input(0, 9);
        x.crash(3, 1, 0);
        x.run();
        x.again();
        due(x.found(5, 0), 0);
        due(x.found(2, 0), 0);
        due(x.search(1), 0);
        due(x.found(1, 0), BAD);
    }

    private static void replay() {
        promise(18);
        CrashRounds x = of(3, 4, 2, 1, 1, 9, 9, 9, 9);
        due(x.replay(), BAD);
        x.crash(3, 1, 0);
        x.step();
        due(x.search(2), 1);
        due(x.replay(), 1);
        due(x.count(3), 0);
        due(x.count(4), 0);
        due(x.count(5), 2);
        due(x.count(7), 15);
        due(x.knows(0), 0);
        due(x.knows(3), 1);
        due(x.breach(), BAD);
        due(x.run(), 2);
        due(x.breach(), 1);
        due(x.decided(2), 0);
        due(x.decided(3), 1);
        due(x.found(0, 0), 1);
        // The plan is a copy: changing it leaves what was found.
        x.again();
        due(x.spare(0), 1);
        due(x.spare(3), 0);
        due(x.input(0, 5), 0);
        due(x.run(), 2);
        due(x.breach(), 0);
        due(x.replay(), 1);
        due(x.knows(0), 0);
        due(x.run(), 2);
        due(x.breach(), 1);
        x.start(3, 4, 2, 1, 1);
        due(x.replay(), BAD);
    }
}
