import java.util.List;
import java.util.function.Supplier;

/** Each sentence of the promises 1 to 18 that names a boundary case, with a test of its own. */
public final class PromiseEdgesTest extends Checks {
    /** Numbers that are no process of any object. */
    private static final int[] NO_PROCESS = {-1, 8, 9, 31, 32, 33, 64, FAR, LOW};

    public static void main(String[] args) {
        newObject();
        startBegins();
        startForgetsFound();
        startRounds();
        startNoSuchAlgorithm();
        startNoneSuch();
        inputWhatItWas();
        inputNoneSuch();
        inputBehindARound();
        crashHowMany();
        crashOtherBits();
        crashOwnBit();
        crashChanged();
        crashNoneSuch();
        crashBehindARound();
        crashMoreThanT();
        spareOneOrZero();
        spareNoneSuch();
        spareBehindARound();
        stepWhichOne();
        stepAllAre();
        runAllThatAreLeft();
        againAnew();
        againHowMany();
        decidedWhat();
        decidedNothingYet();
        decidedInWhich();
        decidedInNot();
        decidedNoneSuch();
        knowsBits();
        knowsNoneSuch();
        vectorInput();
        vectorNone();
        vectorNoneSuch();
        vectorOtherAlgorithm();
        heardLast();
        heardNoneSuch();
        counts();
        countOtherNumber();
        breachOfThisRun();
        breachNotOver();
        searchFirst();
        searchAnew();
        searchNone();
        searchRunGoesOn();
        searchBig();
        searchBigKeepsFound();
        searchBadD();
        foundEach();
        foundNothing();
        foundNoneSuch();
        foundStays();
        replayAnew();
        replayItsBreach();
        replayNothing();
        finish();
    }

    private static void newObject() {
        sentence("1: As behind start(0, 4, 1, 1, 0).");
        same("a new object", story(new CrashRounds()), story(of(FLOOD, 4, 1, 1, 0)));
        CrashRounds x = new CrashRounds();
        due("count(0)", x.count(0), 4);
        due("count(1)", x.count(1), 1);
        due("count(2)", x.count(2), 2);
        due("vector(0, 0), FLOOD has none", x.vector(0, 0), BAD);
        due("knows(3), values as bits", x.knows(3), 1);
        due("knows(4)", x.knows(4), BAD);
        due("found(0, 0)", x.found(0, 0), BAD);
    }

    private static void startBegins() {
        sentence("2: A run of an algorithm begins: inputs 0, nobody crashes");
        int[][] starts = {{FLOOD, 2, 0, 1, 0}, {UNIFORM, 8, 3, 3, 2}, {VECTOR, 5, 2, 1, 0}};
        for (Supplier<CrashRounds> state : ALL_STATES) {
            for (int[] s : starts) {
                CrashRounds x = state.get();
                x.start(s[0], s[1], s[2], s[3], s[4]);
                same("behind start", story(x), story(of(s[0], s[1], s[2], s[3], s[4])));
            }
        }
        CrashRounds x = of(FLOOD, 8, 3, 1, 0, 1, 2, 3, 4, 5, 6, 7, 8);
        x.crash(7, 1, 0);
        x.start(FLOOD, 2, 1, 1, 0);
        x.start(FLOOD, 8, 3, 1, 0);
        due("input(7, 0) of one that was away for a while", x.input(7, 0), 0);
        due("spare(7) of one that was away for a while", x.spare(7), 0);
    }

    private static void startForgetsFound() {
        sentence("2: what was found is gone");
        CrashRounds x = withFound();
        due("found(0, 0)", x.found(0, 0), 1);
        x.start(LEAST, 4, 2, 1, 1);
        due("found(0, 0) behind start", x.found(0, 0), BAD);
        due("found(1, 0) behind start", x.found(1, 0), BAD);
        due("found(2, 0) behind start", x.found(2, 0), BAD);
        due("found(5, 0) behind start", x.found(5, 0), BAD);
        due("replay() behind start", x.replay(), BAD);
    }

    private static void startRounds() {
        sentence("2: R");
        CrashRounds x = new CrashRounds();
        due("the fewest", x.start(FLOOD, 2, 0, 1, 0), 1);
        due("the fewest, not below 1", x.start(ROTOR, 8, 0, 3, 2), 1);
        due("the most", x.start(FLOOD, 4, 3, 1, 0), 4);
        due("the most", x.start(ROTOR, 8, 3, 3, 0), 4);
    }

    private static void startNoSuchAlgorithm() {
        sentence("2: BAD: there is no such algorithm");
        CrashRounds x = new CrashRounds();
        for (int algorithm = 0; algorithm <= 6; algorithm++) {
            due("start(" + algorithm + ", ..)", x.start(algorithm, 4, 1, 1, 0), 2);
        }
        for (int algorithm : new int[] {-1, 7, 8, FAR, LOW}) {
            refused("start(" + algorithm + ", ..)", ALL_STATES,
                    y -> y.start(algorithm, 4, 1, 1, 0));
        }
    }

    private static void startNoneSuch() {
        sentence("2: BAD: n, T, K or LESS is none");
        int[][] bad = {
            {1, 0, 1, 0}, {0, 0, 1, 0}, {-1, 0, 1, 0}, {9, 0, 1, 0}, {FAR, 0, 1, 0}, {LOW, 0, 1, 0},
            {8, 4, 1, 0}, {8, -1, 1, 0}, {8, FAR, 1, 0}, {8, LOW, 1, 0},
            {2, 2, 1, 0}, {3, 3, 1, 0}, {4, 4, 1, 0},
            {8, 3, 0, 0}, {8, 3, -1, 0}, {8, 3, 4, 0}, {8, 3, FAR, 0}, {8, 3, LOW, 0},
            {8, 3, 1, -1}, {8, 3, 1, 3}, {8, 3, 1, FAR}, {8, 3, 1, LOW}
        };
        for (int[] b : bad) {
            for (int algorithm : new int[] {FLOOD, LEAST}) {
                refused("start with " + b[0] + " " + b[1] + " " + b[2] + " " + b[3], ALL_STATES,
                        x -> x.start(algorithm, b[0], b[1], b[2], b[3]));
            }
        }
        int[][] good = {
            {2, 0, 1, 0}, {2, 1, 1, 0}, {3, 2, 1, 0}, {4, 3, 1, 0}, {8, 0, 1, 0}, {8, 3, 1, 0},
            {8, 3, 3, 0}, {8, 3, 1, 2}, {2, 1, 3, 2}
        };
        for (int[] g : good) {
            int due = Math.max(1, g[1] + 1 - g[3]);
            due("start", new CrashRounds().start(FLOOD, g[0], g[1], g[2], g[3]), due);
        }
    }

    private static void inputWhatItWas() {
        sentence("3: A process gets an input: what it was.");
        CrashRounds x = of(LEAST, 8, 3, 1, 0);
        for (int p : new int[] {0, 7}) {
            due("input(p, 15), the first", x.input(p, 15), 0);
            due("input(p, 15), the same again", x.input(p, 15), 15);
            due("knows(p)", x.knows(p), 15);
            due("input(p, 0)", x.input(p, 0), 15);
            due("knows(p)", x.knows(p), 0);
            due("input(p, 1)", x.input(p, 1), 0);
        }
        for (int p = 1; p < 7; p++) {
            due("knows(p) of another one", x.knows(p), 0);
        }
    }

    private static void inputNoneSuch() {
        sentence("3: BAD: none such");
        for (int p : NO_PROCESS) {
            refused("input(" + p + ", 1)", ALL_STATES, x -> x.input(p, 1));
        }
        refused("input(n, 1)", ALL_STATES, x -> x.input(x.count(0), 1));
        for (int value : new int[] {-1, 16, 17, FAR, LOW}) {
            refused("input(0, " + value + ")", ALL_STATES, x -> x.input(0, value));
            refused("input(n - 1, " + value + ")", ALL_STATES,
                    x -> x.input(x.count(0) - 1, value));
        }
        for (int n = 2; n <= 8; n++) {
            CrashRounds x = of(FLOOD, n, 1, 1, 0);
            due("input(n - 1, 15)", x.input(n - 1, 15), 0);
            due("input(n, 15)", x.input(n, 15), BAD);
            due("input(-1, 15)", x.input(-1, 15), BAD);
        }
    }

    private static void inputBehindARound() {
        sentence("3: BAD: a round was made");
        refused("input(0, 1)", BEHIND_A_ROUND, x -> x.input(0, 1));
        refused("input(4, 1), as it is", BEHIND_A_ROUND, x -> x.input(4, 1));
        CrashRounds x = of(FLOOD, 2, 0, 1, 0);
        due("input(0, 3) before the only round", x.input(0, 3), 0);
        x.step();
        due("input(0, 4) behind the only round", x.input(0, 4), BAD);
        x.again();
        due("input(0, 5) behind again()", x.input(0, 5), 3);
        x.run();
        due("input(0, 6) behind run()", x.input(0, 6), BAD);
        due("decided(1)", x.decided(1), 0);
        CrashRounds replayed = withFound();
        replayed.run();
        due("input(0, 9) behind run()", replayed.input(0, 9), BAD);
        replayed.replay();
        due("input(0, 9) behind replay()", replayed.input(0, 9), 0);
    }

    private static void crashHowMany() {
        sentence("4: A process crashes in a round, with a reach: how many crash.");
        CrashRounds x = of(FLOOD, 8, 3, 1, 0);
        due("crash(0, 1, 0), the first values", x.crash(0, 1, 0), 1);
        due("crash(7, 20, 255), the last values", x.crash(7, 20, 255), 2);
        due("crash(3, 4, 8)", x.crash(3, 4, 8), 3);
        due("count(5), that behind R is none", x.count(5), 2);
        x.run();
        due("count(7)", x.count(7), 0b11110110);
    }

    private static void crashOtherBits() {
        sentence("4: bits of processes that there are, another bit: BAD");
        for (int n = 2; n <= 8; n++) {
            CrashRounds x = of(FLOOD, n, 1, 1, 0);
            int all = (1 << n) - 1;
            due("crash, no bit", x.crash(0, 1, 0), 1);
            due("crash, the last bit", x.crash(0, 1, 1 << (n - 1)), 1);
            due("crash, all bits", x.crash(0, 1, all), 1);
            for (int bit = n; bit <= 31; bit++) {
                due("crash, bit " + bit, x.crash(0, 1, 1 << bit), BAD);
                due("crash, all bits and bit " + bit, x.crash(0, 1, all | 1 << bit), BAD);
            }
            due("crash, every bit of an int", x.crash(0, 1, -1), BAD);
            due("spare(0)", x.spare(0), 1);
        }
        for (int reach : new int[] {32, 33, 256, FAR, LOW, -1}) {
            refused("crash of one in the plan", ALL_STATES, x -> x.crash(3, 2, reach));
            refused("crash of one not in the plan", ALL_STATES, x -> x.crash(0, 2, reach));
        }
    }

    private static void crashOwnBit() {
        sentence("4: its own one does not matter");
        for (int p = 0; p < 5; p++) {
            for (int reach : new int[] {0b00000, 0b10101, 0b11111}) {
                CrashRounds with = planned(of(COMMIT, 5, 2, 1, 0, 1, 2, 3, 4, 5),
                        new int[] {p, 1, reach | 1 << p});
                CrashRounds without = planned(of(COMMIT, 5, 2, 1, 0, 1, 2, 3, 4, 5),
                        new int[] {p, 1, reach & ~(1 << p)});
                same("crash of " + p + " with its own bit", story(with), story(without));
            }
        }
        CrashRounds x = planned(of(FLOOD, 2, 1, 1, 0), new int[] {0, 1, 0b01});
        x.step();
        due("count(4), none for itself", x.count(4), 1);
    }

    private static void crashChanged() {
        sentence("4: if it is in the plan, that is changed");
        CrashRounds x = of(VECTOR, 5, 2, 1, 0);
        due("crash(1, 1, 31)", x.crash(1, 1, 31), 1);
        due("crash(1, 2, 4)", x.crash(1, 2, 4), 1);
        due("crash(2, 3, 1)", x.crash(2, 3, 1), 2);
        due("crash(1, 1, 8), T crash", x.crash(1, 1, 8), 2);
        due("crash(2, 1, 0), T crash", x.crash(2, 1, 0), 2);
        CrashRounds last = planned(of(VECTOR, 5, 2, 1, 0),
                new int[] {1, 1, 8}, new int[] {2, 1, 0});
        same("the plan is that of the last calls", story(x), story(last));
    }

    private static void crashNoneSuch() {
        sentence("4: BAD: none such");
        for (int p : NO_PROCESS) {
            refused("crash(" + p + ", 1, 0)", ALL_STATES, x -> x.crash(p, 1, 0));
        }
        refused("crash(n, 1, 0)", ALL_STATES, x -> x.crash(x.count(0), 1, 0));
        for (int round : new int[] {0, -1, 21, 22, FAR, LOW}) {
            refused("crash(3, " + round + ", 0)", ALL_STATES, x -> x.crash(3, round, 0));
            refused("crash(0, " + round + ", 0)", ALL_STATES, x -> x.crash(0, round, 0));
        }
        for (int n = 2; n <= 8; n++) {
            CrashRounds x = of(FLOOD, n, 1, 1, 0);
            due("crash(n, 1, 0)", x.crash(n, 1, 0), BAD);
            due("crash(-1, 1, 0)", x.crash(-1, 1, 0), BAD);
            due("crash(n - 1, 0, 0)", x.crash(n - 1, 0, 0), BAD);
            due("crash(n - 1, 21, 0)", x.crash(n - 1, 21, 0), BAD);
            due("crash(n - 1, 1, 0)", x.crash(n - 1, 1, 0), 1);
            due("crash(n - 1, 20, 0)", x.crash(n - 1, 20, 0), 1);
        }
    }

    private static void crashBehindARound() {
        sentence("4: BAD: a round was made");
        refused("crash of one that is down", BEHIND_A_ROUND, x -> x.crash(3, 1, 0));
        refused("crash of one that is up", BEHIND_A_ROUND, x -> x.crash(1, 3, 0));
        CrashRounds x = of(FLOOD, 3, 1, 1, 0);
        x.step();
        due("crash(0, 2, 0), nobody crashes yet", x.crash(0, 2, 0), BAD);
        x.again();
        due("crash(0, 2, 0) behind again()", x.crash(0, 2, 0), 1);
        x.run();
        due("crash(0, 1, 0) behind run()", x.crash(0, 1, 0), BAD);
        due("count(7), it was in round 2", x.count(7), 0b110);
        CrashRounds replayed = withFound();
        replayed.run();
        replayed.replay();
        due("crash(0, 2, 0) behind replay()", replayed.crash(0, 2, 0), 2);
    }

    private static void crashMoreThanT() {
        sentence("4: BAD: there would be more than T");
        refused("crash(0, 1, 0) above T", List.of(Checks::prepared), x -> x.crash(0, 1, 0));
        for (int t = 0; t <= 3; t++) {
            CrashRounds x = of(FLOOD, 8, t, 1, 0);
            for (int p = 0; p < t; p++) {
                due("crash of one more, behind R", x.crash(p, 20, 0), p + 1);
            }
            due("crash above T", x.crash(7, 1, 0), BAD);
            due("spare(7), it is not in the plan", x.spare(7), 0);
            if (t > 0) {
                due("crash of one in the plan", x.crash(0, 1, 0), t);
                due("spare(0)", x.spare(0), 1);
                due("crash when there is room again", x.crash(7, 1, 0), t);
                due("crash above T", x.crash(0, 1, 0), BAD);
            }
        }
    }

    private static void spareOneOrZero() {
        sentence("5: A process does not crash: 1 if it did, else 0.");
        CrashRounds x = of(FLOOD, 8, 3, 1, 0);
        due("spare(0), nobody crashes", x.spare(0), 0);
        due("spare(7), nobody crashes", x.spare(7), 0);
        planned(x, new int[] {0, 1, 0}, new int[] {7, 20, 0}, new int[] {4, 4, 0});
        due("spare(1), others crash", x.spare(1), 0);
        due("spare(7), one behind R", x.spare(7), 1);
        due("spare(7), once more", x.spare(7), 0);
        due("spare(0)", x.spare(0), 1);
        due("count(5), one is left", x.count(5), 1);
        due("spare(4), the last one", x.spare(4), 1);
        due("count(5)", x.count(5), 0);
        x.run();
        due("count(7)", x.count(7), 255);
        CrashRounds none = of(FLOOD, 2, 0, 1, 0);
        due("spare(1), T is 0", none.spare(1), 0);
        CrashRounds plain = prepared();
        plain.spare(1);
        plain.spare(3);
        same("all are spared", story(plain), story(of(VECTOR, 5, 2, 1, 0, 4, 3, 0, 15, 1)));
    }

    private static void spareNoneSuch() {
        sentence("5: BAD: none such");
        for (int p : NO_PROCESS) {
            refused("spare(" + p + ")", ALL_STATES, x -> x.spare(p));
        }
        refused("spare(n)", ALL_STATES, x -> x.spare(x.count(0)));
        for (int n = 2; n <= 8; n++) {
            CrashRounds x = of(FLOOD, n, 1, 1, 0);
            due("spare(n - 1)", x.spare(n - 1), 0);
            due("spare(n)", x.spare(n), BAD);
        }
    }

    private static void spareBehindARound() {
        sentence("5: BAD: a round was made");
        refused("spare of one that is down", BEHIND_A_ROUND, x -> x.spare(3));
        refused("spare of one that crashes later", BEHIND_A_ROUND, x -> x.spare(1));
        refused("spare of one that never crashes", BEHIND_A_ROUND, x -> x.spare(0));
        CrashRounds x = underWay();
        x.again();
        due("spare(3) behind again()", x.spare(3), 1);
        CrashRounds replayed = withFound();
        replayed.run();
        due("spare(3) behind run()", replayed.spare(3), BAD);
        replayed.replay();
        due("spare(0) behind replay()", replayed.spare(0), 1);
    }

    private static void stepWhichOne() {
        sentence("6: The next round is made: which one.");
        for (int algorithm = FLOOD; algorithm <= ROTOR; algorithm++) {
            CrashRounds x = of(algorithm, 8, 3, 1, 0);
            for (int round = 1; round <= 4; round++) {
                due("step()", x.step(), round);
                due("count(3)", x.count(3), round);
            }
            x.again();
            due("step() behind again()", x.step(), 1);
            x.start(algorithm, 8, 3, 1, 0);
            due("step() behind start", x.step(), 1);
        }
        CrashRounds x = withFound();
        x.step();
        x.replay();
        due("step() behind replay()", x.step(), 1);
    }

    private static void stepAllAre() {
        sentence("6: BAD: all are.");
        refused("step()", List.of(Checks::over), CrashRounds::step);
        CrashRounds one = of(FLOOD, 2, 0, 1, 0);
        due("step(), the only one", one.step(), 1);
        due("step()", one.step(), BAD);
        due("step() once more", one.step(), BAD);
        due("count(3)", one.count(3), 1);
        due("count(4)", one.count(4), 2);
        CrashRounds x = of(FLOOD, 4, 3, 1, 0);
        x.run();
        due("step() behind run()", x.step(), BAD);
        due("count(3)", x.count(3), 4);
    }

    private static void runAllThatAreLeft() {
        sentence("7: All rounds that are left are made: R.");
        for (int made = 0; made <= 3; made++) {
            CrashRounds x = prepared();
            for (int round = 1; round <= made; round++) {
                x.step();
            }
            due("run() when " + made + " of 3 were made", x.run(), 3);
            due("count(3)", x.count(3), 3);
            due("run() once more", x.run(), 3);
            same("behind run()", story(x), story(stepped(3)));
        }
        due("run() of one round", of(FLOOD, 2, 0, 1, 0).run(), 1);
        due("run() of four rounds", of(FLOOD, 8, 3, 1, 0).run(), 4);
    }

    private static CrashRounds stepped(int rounds) {
        CrashRounds x = prepared();
        for (int round = 1; round <= rounds; round++) {
            x.step();
        }
        return x;
    }

    private static void againAnew() {
        sentence("8: The run begins anew with its inputs and its plan");
        for (int made = 0; made <= 3; made++) {
            CrashRounds x = stepped(made);
            x.again();
            same("again() behind " + made + " rounds", story(x), story(prepared()));
        }
        CrashRounds marked = of(UNIFORM, 4, 2, 1, 0);
        marked.run();
        due("count(8)", marked.count(8), 0b1111);
        marked.again();
        due("count(8) behind again()", marked.count(8), 0);
        CrashRounds x = withFound();
        x.step();
        x.again();
        same("what was found stays", story(x), story(withFound()));
    }

    private static void againHowMany() {
        sentence("8: how many rounds were made");
        for (int made = 0; made <= 3; made++) {
            CrashRounds x = stepped(made);
            due("again()", x.again(), made);
            due("again() once more", x.again(), 0);
        }
        CrashRounds most = of(FLOOD, 4, 3, 1, 0);
        most.run();
        due("again()", most.again(), 4);
        CrashRounds replayed = withFound();
        replayed.run();
        replayed.replay();
        due("again() behind replay()", replayed.again(), 0);
    }

    private static void decidedWhat() {
        sentence("9: What a process decided.");
        for (int value : new int[] {0, 15}) {
            for (int algorithm : new int[] {FLOOD, EARLY, UNIFORM, LEAST, ROTOR}) {
                CrashRounds x = of(algorithm, 2, 1, 1, 0, value, value);
                x.run();
                due("decided(0)", x.decided(0), value);
                due("decided(1)", x.decided(1), value);
            }
        }
        CrashRounds x = over();
        due("decided(0)", x.decided(0), 5);
        x.again();
        due("decided(0) behind again()", x.decided(0), NONE);
    }

    private static void decidedNothingYet() {
        sentence("9: NONE: nothing yet.");
        for (int algorithm = FLOOD; algorithm <= ROTOR; algorithm++) {
            CrashRounds x = planned(of(algorithm, 4, 2, 1, 0), new int[] {0, 1, 0},
                    new int[] {1, 3, 0b1111});
            for (int p = 0; p < 4; p++) {
                due("decided(p) before the first round", x.decided(p), NONE);
            }
            x.step();
            due("decided(2) behind round 1", x.decided(2), NONE);
            x.run();
            due("decided(0), down since round 1", x.decided(0), NONE);
            due("decided(1), down since round R", x.decided(1), algorithm == EARLY ? 0 : NONE);
            due("decided(2)", x.decided(2), algorithm == VECTOR ? 3 : 0);
        }
    }

    private static void decidedInWhich() {
        sentence("10: In which round it did");
        int[] rounds = {4, 1, 2, 4, 4, 4, 4};
        for (int algorithm = FLOOD; algorithm <= ROTOR; algorithm++) {
            CrashRounds x = of(algorithm, 8, 3, 1, 0);
            x.run();
            due("decidedIn(0)", x.decidedIn(0), rounds[algorithm]);
            due("decidedIn(7)", x.decidedIn(7), rounds[algorithm]);
            CrashRounds one = of(algorithm, 2, 0, 1, 0);
            one.run();
            due("decidedIn(1), R is 1", one.decidedIn(1), 1);
        }
    }

    private static void decidedInNot() {
        sentence("10: 0: it did not.");
        for (int algorithm = FLOOD; algorithm <= ROTOR; algorithm++) {
            CrashRounds x = planned(of(algorithm, 4, 2, 1, 0), new int[] {0, 1, 0},
                    new int[] {1, 3, 0b1111});
            due("decidedIn(2) before the first round", x.decidedIn(2), 0);
            x.step();
            due("decidedIn(2) behind round 1", x.decidedIn(2), 0);
            x.run();
            due("decidedIn(0), down since round 1", x.decidedIn(0), 0);
            due("decidedIn(1), down since round R", x.decidedIn(1), algorithm == EARLY ? 2 : 0);
            due("decidedIn(2) is not 0", x.decidedIn(2) == 0 ? 1 : 0, 0);
            x.again();
            due("decidedIn(2) behind again()", x.decidedIn(2), 0);
        }
    }

    private static void decidedNoneSuch() {
        sentence("9, 10: BAD: none such.");
        for (int p : NO_PROCESS) {
            refused("decided(" + p + ")", ALL_STATES, x -> x.decided(p));
            refused("decidedIn(" + p + ")", ALL_STATES, x -> x.decidedIn(p));
        }
        for (int n = 2; n <= 8; n++) {
            CrashRounds x = of(FLOOD, n, 0, 1, 0);
            x.run();
            due("decided(n - 1)", x.decided(n - 1), 0);
            due("decided(n)", x.decided(n), BAD);
            due("decidedIn(n - 1)", x.decidedIn(n - 1), 1);
            due("decidedIn(n)", x.decidedIn(n), BAD);
        }
    }

    private static void knowsBits() {
        sentence("11: FLOOD values as bits, VECTOR and COMMIT processes as bits, else a value");
        int[] first = {1 << 15, 15, 15, 15, 1 << 7, 1 << 7, 15};
        int[] all = {1 << 15 | 1, 0, 0, 0, 255, 255, 0};
        for (int algorithm = FLOOD; algorithm <= ROTOR; algorithm++) {
            CrashRounds x = of(algorithm, 8, 1, 1, 0, 0, 0, 0, 0, 0, 0, 0, 15);
            due("knows(7), its own alone", x.knows(7), first[algorithm]);
            x.step();
            due("knows(7), all that there is", x.knows(7), all[algorithm]);
            due("knows(0), all that there is", x.knows(0), algorithm == ROTOR ? 0 : all[algorithm]);
        }
        int[] zero = {1, 0, 0, 0, 1, 1, 0};
        for (int algorithm = FLOOD; algorithm <= ROTOR; algorithm++) {
            due("knows(0), input 0", of(algorithm, 2, 0, 1, 0).knows(0), zero[algorithm]);
        }
    }

    private static void knowsNoneSuch() {
        sentence("11: BAD: none such.");
        for (int p : NO_PROCESS) {
            refused("knows(" + p + ")", ALL_STATES, x -> x.knows(p));
        }
        for (int algorithm = FLOOD; algorithm <= ROTOR; algorithm++) {
            for (int n = 2; n <= 8; n++) {
                CrashRounds x = of(algorithm, n, 0, 1, 0);
                due("knows(n)", x.knows(n), BAD);
                due("knows(-1)", x.knows(-1), BAD);
            }
        }
    }

    private static void vectorInput() {
        sentence("12: VECTOR, COMMIT: the input of q as p knows it.");
        for (int algorithm : new int[] {VECTOR, COMMIT}) {
            CrashRounds x = of(algorithm, 8, 0, 1, 0, 0, 1, 2, 3, 4, 5, 6, 15);
            due("vector(0, 0), its own", x.vector(0, 0), 0);
            due("vector(7, 7), its own", x.vector(7, 7), 15);
            x.run();
            due("vector(0, 7)", x.vector(0, 7), 15);
            due("vector(7, 0), which is 0", x.vector(7, 0), 0);
        }
    }

    private static void vectorNone() {
        sentence("12: NONE: it does not.");
        for (int algorithm : new int[] {VECTOR, COMMIT}) {
            CrashRounds x = planned(of(algorithm, 4, 2, 1, 0, 3, 3, 3, 3),
                    new int[] {0, 1, 0b0010}, new int[] {1, 2, 0});
            for (int p = 0; p < 4; p++) {
                for (int q = 0; q < 4; q++) {
                    due("vector(p, q) at first", x.vector(p, q), p == q ? 3 : NONE);
                }
            }
            x.run();
            due("vector(1, 0), reached", x.vector(1, 0), 3);
            due("vector(2, 0), never reached", x.vector(2, 0), NONE);
            due("vector(0, 2), down", x.vector(0, 2), NONE);
            due("vector(2, 1)", x.vector(2, 1), 3);
        }
    }

    private static void vectorNoneSuch() {
        sentence("12: BAD: none such");
        for (int p : NO_PROCESS) {
            refused("vector(" + p + ", 0)", ALL_STATES, x -> x.vector(p, 0));
            refused("vector(0, " + p + ")", ALL_STATES, x -> x.vector(0, p));
            refused("vector(" + p + ", " + p + ")", ALL_STATES, x -> x.vector(p, p));
        }
        for (int n = 2; n <= 8; n++) {
            CrashRounds x = of(VECTOR, n, 0, 1, 0);
            x.run();
            due("vector(n - 1, 0)", x.vector(n - 1, 0), 0);
            due("vector(n, 0)", x.vector(n, 0), BAD);
            due("vector(0, n - 1)", x.vector(0, n - 1), 0);
            due("vector(0, n)", x.vector(0, n), BAD);
            due("vector(n, n)", x.vector(n, n), BAD);
        }
    }

    private static void vectorOtherAlgorithm() {
        sentence("12: BAD: another algorithm");
        for (int algorithm : new int[] {FLOOD, EARLY, UNIFORM, LEAST, ROTOR}) {
            CrashRounds x = of(algorithm, 3, 1, 1, 0);
            due("vector(0, 0) at first", x.vector(0, 0), BAD);
            due("vector(0, 1) at first", x.vector(0, 1), BAD);
            x.run();
            due("vector(0, 0)", x.vector(0, 0), BAD);
            due("vector(0, 1)", x.vector(0, 1), BAD);
            due("vector(0, 3)", x.vector(0, 3), BAD);
        }
    }

    private static void heardLast() {
        sentence("13: From how many a process heard last.");
        CrashRounds most = of(FLOOD, 8, 0, 1, 0);
        due("heard(7) before the first round", most.heard(7), 8);
        most.run();
        due("heard(7), from all", most.heard(7), 8);
        CrashRounds x = planned(of(FLOOD, 4, 3, 1, 0),
                new int[] {0, 1, 0}, new int[] {1, 2, 0}, new int[] {2, 3, 0});
        int[] heard = {3, 2, 1, 1};
        for (int round = 1; round <= 4; round++) {
            x.step();
            due("heard(3), each round anew", x.heard(3), heard[round - 1]);
        }
        due("heard(2), as before it crashed", x.heard(2), 2);
        CrashRounds rotor = planned(of(ROTOR, 2, 1, 1, 0), new int[] {0, 1, 0});
        rotor.step();
        due("heard(1), from nobody", rotor.heard(1), 0);
        rotor.again();
        due("heard(1) behind again()", rotor.heard(1), 2);
    }

    private static void heardNoneSuch() {
        sentence("13: BAD: none such.");
        for (int p : NO_PROCESS) {
            refused("heard(" + p + ")", ALL_STATES, x -> x.heard(p));
        }
        for (int n = 2; n <= 8; n++) {
            CrashRounds x = of(FLOOD, n, 0, 1, 0);
            due("heard(n - 1)", x.heard(n - 1), n);
            due("heard(n)", x.heard(n), BAD);
        }
    }

    private static void counts() {
        sentence("14: 0 how many processes, 1 T, 2 R, 3 rounds made, 4 letters sent so far, 5 F,"
                + " 6 the BOUND, 7 processes that are up as bits, 8 processes with a mark as bits");
        CrashRounds few = of(UNIFORM, 2, 0, 1, 0);
        dueCounts(few, 2, 0, 1, 0, 0, 0, 1, 0b11, 0);
        few.run();
        dueCounts(few, 2, 0, 1, 1, 2, 0, 1, 0b11, 0b11);
        CrashRounds many = planned(of(UNIFORM, 8, 3, 3, 0),
                new int[] {0, 1, 0}, new int[] {1, 4, 255}, new int[] {7, 2, 1});
        dueCounts(many, 8, 3, 4, 0, 0, 3, 4, 255, 0);
        many.step();
        dueCounts(many, 8, 3, 4, 1, 49, 3, 4, 0b11111110, 0);
        many.step();
        dueCounts(many, 8, 3, 4, 2, 49 + 43, 3, 4, 0b01111110, 0);
        many.step();
        dueCounts(many, 8, 3, 4, 3, 49 + 43 + 42, 3, 4, 0b01111110, 0b01111110);
        many.step();
        dueCounts(many, 8, 3, 4, 4, 49 + 43 + 42 + 42, 3, 4, 0b01111100, 0b01111110);
    }

    private static void dueCounts(CrashRounds x, int... counts) {
        for (int which = 0; which < counts.length; which++) {
            due("count(" + which + ")", x.count(which), counts[which]);
        }
    }

    private static void countOtherNumber() {
        sentence("14: BAD: another number.");
        for (int which : new int[] {-1, 9, 10, FAR, LOW}) {
            refused("count(" + which + ")", ALL_STATES, x -> x.count(which));
        }
    }

    private static void breachOfThisRun() {
        sentence("15: The breach of this run.");
        CrashRounds x = planned(of(FLOOD, 3, 1, 1, 1, 0, 1, 1), new int[] {0, 1, 0b010});
        x.run();
        due("breach()", x.breach(), 1);
        due("breach() once more", x.breach(), 1);
        x.search(1);
        due("breach() behind a search that finds none", x.breach(), 1);
        x.again();
        x.crash(0, 1, 0b110);
        x.run();
        due("breach(), all were reached", x.breach(), 0);
        x.search(2);
        due("breach() behind a search that finds one", x.breach(), 0);
        x.again();
        x.crash(0, 1, 0);
        x.run();
        due("breach(), none was reached", x.breach(), 0);
    }

    private static void breachNotOver() {
        sentence("15: BAD: its rounds are not over.");
        for (int made = 0; made <= 2; made++) {
            int rounds = made;
            refused("breach() behind " + made + " of 3 rounds",
                    List.of(() -> stepped(rounds)), CrashRounds::breach);
        }
        CrashRounds x = stepped(3);
        due("breach() behind 3 of 3 rounds", x.breach(), 0);
        x.again();
        due("breach() behind again()", x.breach(), BAD);
        x.run();
        due("breach() behind run()", x.breach(), 0);
        x.start(FLOOD, 2, 0, 1, 0);
        due("breach() behind start", x.breach(), BAD);
        CrashRounds replayed = withFound();
        replayed.run();
        replayed.replay();
        due("breach() behind replay()", replayed.breach(), BAD);
    }

    private static void searchFirst() {
        sentence("16: the breach of the first run that has one, which is found then");
        for (Supplier<CrashRounds> state : ALL_STATES) {
            CrashRounds x = state.get();
            x.start(VECTOR, 3, 1, 1, 1);
            due("search(1)", x.search(1), 1);
            same("found", found(x), " 1 1 0 1 2 -1 -1 -1 -1 -1 -1 -1 -1 -1 0 0 0");
        }
        CrashRounds x = of(LEAST, 4, 2, 1, 1, 15, 15, 15, 15);
        String due = " 1 2 0 1 2 1 2 4 -1 -1 -1 -1 -1 -1 0 1 1 1";
        due("search(2) before the first round", x.search(2), 1);
        same("found", found(x), due);
        x.step();
        due("search(2) behind a round", x.search(2), 1);
        same("found", found(x), due);
        x.run();
        due("search(2) behind all rounds", x.search(2), 1);
        same("found", found(x), due);
    }

    private static void searchAnew() {
        sentence("16: A search of this algorithm");
        for (int before = FLOOD; before <= ROTOR; before++) {
            for (int algorithm = FLOOD; algorithm <= ROTOR; algorithm++) {
                for (int less = 1; less <= 2; less++) {
                    CrashRounds fresh = of(algorithm, 4, 2, 1, less);
                    fresh.search(2);
                    CrashRounds x = of(before, 4, 2, 1, 1);
                    x.search(2);
                    x.start(algorithm, 4, 2, 1, less);
                    due("search(2), as on a new object", x.search(2), fresh.found(0, 0));
                    same("found behind another search", found(x), found(fresh));
                    due("search(2) once more", x.search(2), fresh.found(0, 0));
                    same("found behind the same search", found(x), found(fresh));
                }
            }
        }
    }

    private static void searchNone() {
        sentence("16: 0: none has, nothing is found then.");
        CrashRounds x = withFound();
        due("found(0, 0)", x.found(0, 0), 1);
        due("search(1)", x.search(1), 0);
        same("found", found(x), found(new CrashRounds()));
        due("replay()", x.replay(), BAD);
        due("search(3), T is 0 and R is 1", of(FLOOD, 2, 0, 1, 0).search(3), 0);
        for (int algorithm = FLOOD; algorithm <= ROTOR; algorithm++) {
            for (int d = 1; d <= 3; d++) {
                due("search(" + d + ")", of(algorithm, 3, 1, 1, 0).search(d), 0);
                due("search(" + d + "), one sound alone", of(algorithm, 2, 1, 1, 2).search(d), 0);
            }
        }
    }

    private static void searchRunGoesOn() {
        sentence("16: This run goes on as it was.");
        for (Supplier<CrashRounds> state : ALL_STATES) {
            for (int d = 0; d <= 4; d++) {
                CrashRounds x = state.get();
                x.search(d);
                same("behind search(" + d + ")", future(x), future(state.get()));
            }
        }
    }

    private static void searchBig() {
        sentence("16: BIG: there are more than 60,000 runs.");
        // Of all that can be asked these have the most runs up to 60,000 and the fewest above.
        due("search(1), 58,849 runs", of(FLOOD, 4, 3, 1, 1).search(1), 0);
        due("search(1), 61,825 runs", of(FLOOD, 6, 2, 1, 1).search(1), BIG);
        due("search(2), 57,472 runs", of(FLOOD, 7, 1, 1, 1).search(2), 1);
        due("search(2), 84,512 runs", of(FLOOD, 5, 2, 1, 2).search(2), BIG);
        due("search(3), 39,123 runs", of(FLOOD, 5, 1, 1, 0).search(3), 0);
        due("search(3), 129,681 runs", of(FLOOD, 4, 2, 1, 1).search(3), BIG);
        due("search(3), the most of all", of(FLOOD, 8, 3, 1, 0).search(3), BIG);
        due("search(1), the fewest of all", of(FLOOD, 2, 0, 1, 0).search(1), 0);
        for (int algorithm = FLOOD; algorithm <= ROTOR; algorithm++) {
            for (int n = 2; n <= 8; n++) {
                for (int t = 0; t <= 3 && t < n; t++) {
                    for (int less = 0; less <= 2; less++) {
                        dueBigAbove(of(algorithm, n, t, 1, less));
                    }
                }
            }
        }
    }

    private static void dueBigAbove(CrashRounds x) {
        for (int d = 1; d <= 3; d++) {
            double runs = runs(x.count(0), x.count(1), x.count(2), d);
            due("BIG for " + runs + " runs", x.search(d) == BIG ? 1 : 0, runs > 60000 ? 1 : 0);
        }
    }

    /** For each set of processes that may crash all their rounds and reaches, and all inputs. */
    private static double runs(int n, int t, int rounds, int d) {
        double plans = 0;
        for (int set = 0; set < 1 << n; set++) {
            int crashes = Integer.bitCount(set);
            plans += crashes <= t ? Math.pow(rounds * Math.pow(2, n - 1), crashes) : 0;
        }
        return plans * Math.pow(d, n);
    }

    private static void searchBigKeepsFound() {
        sentence("16: BIG (and what was found stays)");
        CrashRounds x = withFound();
        due("search(3)", x.search(3), BIG);
        same("behind the search that was too big", story(x), story(withFound()));
        CrashRounds none = of(LEAST, 4, 2, 1, 1);
        due("search(3), nothing was found", none.search(3), BIG);
        due("found(0, 0)", none.found(0, 0), BAD);
        due("replay()", none.replay(), BAD);
    }

    private static void searchBadD() {
        sentence("16: BAD: d is not 1 .. 3.");
        for (int d : new int[] {0, -1, 4, 5, FAR, LOW}) {
            refused("search(" + d + ")", ALL_STATES, x -> x.search(d));
            due("search(" + d + "), too big with any d", of(FLOOD, 8, 3, 1, 0).search(d), BAD);
        }
        for (int d = 1; d <= 3; d++) {
            due("search(" + d + ")", new CrashRounds().search(d), 0);
        }
    }

    private static void foundEach() {
        sentence("17: 0 its breach, 1 how many crash, 2 the j-th process that does, 3 its round,"
                + " 4 its reach, 5 the input of process j");
        CrashRounds x = withFound();
        int[][] due = {{1}, {2}, {0, 1}, {1, 2}, {0b0010, 0b0100}, {0, 1, 1, 1}};
        for (int which = 0; which <= 5; which++) {
            for (int j = 0; j < due[which].length; j++) {
                due("found(" + which + ", " + j + ")", x.found(which, j), due[which][j]);
            }
        }
        CrashRounds wide = of(VECTOR, 8, 1, 1, 1);
        due("search(1)", wide.search(1), 1);
        due("found(1, 0)", wide.found(1, 0), 1);
        due("found(5, 7)", wide.found(5, 7), 0);
        due("found(5, 8)", wide.found(5, 8), BAD);
    }

    private static void foundNothing() {
        sentence("17: BAD: nothing was found");
        CrashRounds searched = new CrashRounds();
        searched.search(2);
        for (int which = -1; which <= 6; which++) {
            for (int j = -1; j <= 4; j++) {
                due("found of a new object", new CrashRounds().found(which, j), BAD);
                due("found behind a search for nothing", searched.found(which, j), BAD);
            }
        }
        refused("found(0, 0)", NOTHING_FOUND, x -> x.found(0, 0));
    }

    private static void foundNoneSuch() {
        sentence("17: BAD: none such");
        for (int which : new int[] {-1, 6, 7, FAR, LOW}) {
            refused("found(" + which + ", 0)", ALL_STATES, x -> x.found(which, 0));
        }
        for (int which = 2; which <= 4; which++) {
            int asked = which;
            for (int j : new int[] {-1, 2, 3, 4, 8, FAR, LOW}) {
                refused("found(" + which + ", " + j + ")", ALL_STATES, x -> x.found(asked, j));
            }
            CrashRounds one = of(FLOOD, 3, 1, 1, 1);
            one.search(2);
            due("found(.., 0), one crashes", one.found(which, 0) == BAD ? 1 : 0, 0);
            due("found(.., 1), one crashes", one.found(which, 1), BAD);
        }
        for (int j : NO_PROCESS) {
            refused("found(5, " + j + ")", ALL_STATES, x -> x.found(5, j));
        }
        refused("found(5, n)", ALL_STATES, x -> x.found(5, x.count(0)));
        due("found(5, n - 1)", withFound().found(5, 3), 1);
    }

    private static void foundStays() {
        sentence("17: Of the run that was found");
        CrashRounds x = withFound();
        String due = found(x);
        x.input(0, 15);
        x.crash(0, 1, 0b1111);
        x.spare(3);
        x.run();
        x.again();
        same("behind other calls", found(x), due);
        x.replay();
        x.input(0, 15);
        x.crash(0, 2, 0b1111);
        x.spare(1);
        x.run();
        same("behind replay() and changes of that run", found(x), due);
    }

    private static void replayAnew() {
        sentence("18: This run begins anew with inputs and plan of what was found");
        CrashRounds given = planned(of(LEAST, 4, 2, 1, 1, 0, 1, 1, 1),
                new int[] {0, 1, 0b0010}, new int[] {1, 2, 0b0100});
        String due = future(given);
        for (int made = 0; made <= 2; made++) {
            CrashRounds x = withFound();
            for (int round = 1; round <= made; round++) {
                x.step();
            }
            x.replay();
            same("replay() behind " + made + " rounds", future(x), due);
            x.replay();
            same("replay() once more", future(x), due);
        }
    }

    private static void replayItsBreach() {
        sentence("18: its breach");
        CrashRounds x = withFound();
        due("replay()", x.replay(), 1);
        due("breach()", x.breach(), BAD);
        x.run();
        due("breach()", x.breach(), 1);
        due("replay() once more", x.replay(), 1);
    }

    private static void replayNothing() {
        sentence("18: BAD: nothing was found.");
        refused("replay()", NOTHING_FOUND, CrashRounds::replay);
        CrashRounds x = withFound();
        x.search(1);
        due("replay() behind a search for nothing", x.replay(), BAD);
        due("spare(3), this run has its plan", x.spare(3), 1);
        due("input(0, 0), this run has its inputs", x.input(0, 0), 7);
    }
}
