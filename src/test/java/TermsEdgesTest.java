/** Each sentence of the document's "Terms" that names a boundary case, with a test of its own. */
public final class TermsEdgesTest extends Checks {
    public static void main(String[] args) {
        atMost512Calls();
        processes();
        inputs();
        mostCrashes();
        crashRounds();
        reaches();
        rounds();
        lettersToAllOthers();
        lettersOfOneThatCrashes();
        downBehindIt();
        gotLetters();
        gotItsOwnLetter();
        heardBeforeTheFirstRound();
        allAtOnce();
        downChangesNoMore();
        less();
        floodRounds();
        floodLeast();
        earlyAsManyAsBefore();
        earlyInTheLastRound();
        earlyGoesOn();
        uniformMark();
        uniformLastRoundAlone();
        uniformMarkStays();
        uniformMarkByLetter();
        uniformDecides();
        uniformDecidesOnce();
        uniformUpBehindIt();
        uniformOthersInTheLastRound();
        leastRounds();
        leastAlone();
        vectorHowMany();
        commitAllAndNoneZero();
        rotorSenders();
        rotorWhoeverGets();
        sound();
        faults();
        bound();
        breachWhenOver();
        breachOfTwoSound();
        breachOfAnyTwo();
        breachOfLeast();
        breachOfUniform();
        breachOfVector();
        breachOfNobodysInput();
        breachOfMissedInputs();
        breachOfCommit();
        breachOfLateDecision();
        breachNone();
        searchInputs();
        searchPlans();
        orderBySize();
        orderByBits();
        orderFromTheLeastOn();
        orderByReach();
        orderByInputs();
        finish();
    }

    private static void atMost512Calls() {
        sentence("An object is used for at most 512 calls after it has been made");
        CrashRounds x = new CrashRounds();
        x.start(UNIFORM, 4, 2, 1, 0);
        int answers = 0;
        for (int call = 2; call <= 509; call++) {
            answers += x.search(2);
        }
        due("508 searches of 56,848 runs each", answers, 0);
        due("call 510, run()", x.run(), 3);
        due("call 511, decidedIn(3)", x.decidedIn(3), 2);
        due("call 512, breach()", x.breach(), 0);
    }

    private static void processes() {
        sentence("PROCESSES are 0 .. n - 1, n of 2 .. 8.");
        CrashRounds x = new CrashRounds();
        for (int n = 2; n <= 8; n++) {
            due("start with n = " + n, x.start(FLOOD, n, 1, 1, 0), 2);
            due("count(0)", x.count(0), n);
            due("count(7)", x.count(7), (1 << n) - 1);
            due("knows(0)", x.knows(0), 1);
            due("knows(n - 1)", x.knows(n - 1), 1);
            due("knows(-1)", x.knows(-1), BAD);
            due("knows(n)", x.knows(n), BAD);
        }
        for (int n : new int[] {1, 0, -1, 9, 10, FAR, LOW}) {
            due("start with n = " + n, x.start(FLOOD, n, 0, 1, 0), BAD);
        }
        due("count(0)", x.count(0), 8);
    }

    private static void inputs() {
        sentence("Each has an INPUT, 0 .. 15 (0 at first).");
        CrashRounds x = of(EARLY, 8, 3, 1, 0);
        for (int p = 0; p < 8; p++) {
            due("knows(p) at first", x.knows(p), 0);
            due("input(p, 15)", x.input(p, 15), 0);
            due("input(p, 16)", x.input(p, 16), BAD);
            due("input(p, -1)", x.input(p, -1), BAD);
            due("knows(p)", x.knows(p), 15);
            due("input(p, 0)", x.input(p, 0), 15);
            due("knows(p)", x.knows(p), 0);
        }
    }

    private static void mostCrashes() {
        sentence("A PLAN says which of them CRASH, at most T (0 .. 3, below n)");
        CrashRounds x = new CrashRounds();
        for (int n = 2; n <= 8; n++) {
            int greatest = Math.min(3, n - 1);
            for (int t = 0; t <= greatest; t++) {
                due("start with T = " + t, x.start(FLOOD, n, t, 1, 0), t + 1);
                due("count(1)", x.count(1), t);
                for (int p = 0; p < t; p++) {
                    due("crash of one more", x.crash(p, 1, 0), p + 1);
                }
                due("crash of one above T", x.crash(t, 1, 0), BAD);
            }
            due("T one too many", x.start(FLOOD, n, greatest + 1, 1, 0), BAD);
            due("T = -1", x.start(FLOOD, n, -1, 1, 0), BAD);
        }
    }

    private static void crashRounds() {
        sentence("each in a ROUND 1 .. 20");
        CrashRounds x = new CrashRounds();
        for (int round = 1; round <= 20; round++) {
            due("crash in round " + round, x.crash(0, round, 0), 1);
            // Rounds 1 and 2 are made, and no other.
            due("count(5)", x.count(5), round <= 2 ? 1 : 0);
        }
        for (int round : new int[] {0, -1, 21, 22, FAR, LOW}) {
            due("crash in round " + round, x.crash(0, round, 0), BAD);
        }
    }

    private static void reaches() {
        sentence("its REACH: those others that still get its letter of that round");
        for (int n = 2; n <= 8; n++) {
            for (int p = 0; p < n; p++) {
                for (int reach : new int[] {0, 1, 1 << (n - 1), 1 << p, (1 << n) - 1}) {
                    checkReach(n, p, reach);
                }
            }
        }
    }

    private static void checkReach(int n, int p, int reach) {
        CrashRounds x = of(VECTOR, n, 1, 1, 0);
        due("crash", x.crash(p, 1, reach), 1);
        x.step();
        int others = reach & ~(1 << p);
        due("count(4)", x.count(4), (n - 1) * (n - 1) + Integer.bitCount(others));
        for (int q = 0; q < n; q++) {
            int due = (others >> q & 1) == 1 || q == p ? 0 : NONE;
            due("vector(q, p)", x.vector(q, p), due);
        }
    }

    private static void rounds() {
        sentence("A RUN has rounds 1, 2, .. R.");
        for (int t = 0; t <= 3; t++) {
            CrashRounds x = of(FLOOD, 4, t, 1, 0);
            for (int round = 1; round <= t + 1; round++) {
                due("step()", x.step(), round);
            }
            due("step() behind round R", x.step(), BAD);
            due("count(3)", x.count(3), t + 1);
        }
    }

    private static void lettersToAllOthers() {
        sentence("each process that is UP sends its letter to all others,"
                + " also to those that are down (a letter for each)");
        CrashRounds most = of(FLOOD, 8, 3, 1, 0);
        due("count(4) before the first round", most.count(4), 0);
        most.run();
        due("count(4), nobody down", most.count(4), 4 * 8 * 7);
        CrashRounds fewest = planned(of(FLOOD, 2, 1, 1, 0), new int[] {0, 1, 0});
        fewest.step();
        due("count(4)", fewest.count(4), 1);
        fewest.step();
        due("count(4), to one that is down alone", fewest.count(4), 2);
        CrashRounds x = planned(of(FLOOD, 4, 3, 1, 0),
                new int[] {0, 1, 0}, new int[] {1, 1, 0}, new int[] {2, 1, 0});
        x.run();
        due("count(4), one up alone in four rounds", x.count(4), 4 * 3);
    }

    private static void lettersOfOneThatCrashes() {
        sentence("one that crashes in it to its reach alone");
        int[] reaches = {0b0000, 0b0001, 0b0010, 0b1010, 0b1110, 0b1111};
        int[] sent = {0, 0, 1, 2, 3, 3};
        for (int i = 0; i < reaches.length; i++) {
            CrashRounds x = planned(of(FLOOD, 4, 1, 1, 0),
                    new int[] {0, 2, reaches[i]});
            x.step();
            due("count(4) in the round before", x.count(4), 12);
            x.step();
            due("count(4)", x.count(4), 12 + 9 + sent[i]);
            for (int q = 1; q < 4; q++) {
                due("heard(q)", x.heard(q), 3 + (reaches[i] >> q & 1));
            }
        }
    }

    private static void downBehindIt() {
        sentence("and is DOWN behind it");
        CrashRounds x = planned(of(FLOOD, 4, 3, 1, 0),
                new int[] {0, 1, 0b1111}, new int[] {1, 2, 0b1111}, new int[] {2, 4, 0b1111});
        int[] up = {0b1111, 0b1110, 0b1100, 0b1100, 0b1000};
        due("count(7) before the first round", x.count(7), up[0]);
        for (int round = 1; round <= 4; round++) {
            x.step();
            due("count(7) behind round " + round, x.count(7), up[round]);
        }
        due("decided by one that crashes in round R", x.decided(2), NONE);
        due("decided by one that is up", x.decided(3), 0);
    }

    private static void gotLetters() {
        sentence("Each one that is up behind it has GOT the letters of this round"
                + " that were sent to it");
        CrashRounds x = planned(of(FLOOD, 3, 2, 1, 0, 1, 2, 3),
                new int[] {0, 1, 0b010}, new int[] {1, 2, 0b001});
        x.step();
        due("knows(0), down behind it", x.knows(0), 0b0010);
        due("heard(0), down behind it", x.heard(0), 3);
        due("knows(1), up behind it", x.knows(1), 0b1110);
        due("heard(1), up behind it", x.heard(1), 3);
        due("knows(2), not reached", x.knows(2), 0b1100);
        due("heard(2), not reached", x.heard(2), 2);
        x.step();
        due("knows(0), reached when it was down", x.knows(0), 0b0010);
        due("heard(2), reached by nobody", x.heard(2), 1);
    }

    private static void gotItsOwnLetter() {
        sentence("and its own (if it sent one in this round)");
        CrashRounds alone = planned(of(FLOOD, 2, 1, 1, 0), new int[] {1, 1, 0});
        alone.step();
        due("heard(0), from itself alone", alone.heard(0), 1);
        CrashRounds rotor = planned(of(ROTOR, 3, 1, 1, 0), new int[] {0, 1, 0});
        rotor.step();
        due("heard(1), which sent none", rotor.heard(1), 0);
        rotor.step();
        due("heard(1), which sent one", rotor.heard(1), 1);
        due("heard(2), which sent none, but got one", rotor.heard(2), 1);
    }

    private static void heardBeforeTheFirstRound() {
        sentence("HEARD is from how many processes (n before the first round).");
        for (int algorithm = FLOOD; algorithm <= ROTOR; algorithm++) {
            for (int n = 2; n <= 8; n++) {
                CrashRounds x = planned(of(algorithm, n, 1, 1, 0), new int[] {0, 2, 0});
                due("heard(0) at first", x.heard(0), n);
                due("heard(n - 1) at first", x.heard(n - 1), n);
                x.step();
                int all = algorithm == ROTOR ? 1 : n;
                due("heard(n - 1) behind round 1", x.heard(n - 1), all);
                x.step();
                int left = algorithm == ROTOR ? 1 : n - 1;
                due("heard(n - 1) behind round 2", x.heard(n - 1), left);
                due("heard(0), down in round 2", x.heard(0), all);
                x.again();
                due("heard(0) behind again()", x.heard(0), n);
            }
        }
    }

    private static void allAtOnce() {
        sentence("What it knows changes by all of these at once.");
        CrashRounds up = planned(of(VECTOR, 4, 2, 1, 0), new int[] {0, 1, 0b0010});
        up.step();
        due("knows(2): 1 had 0's input in no letter yet", up.knows(2), 0b1110);
        due("knows(3)", up.knows(3), 0b1110);
        up.step();
        due("knows(2) a round later", up.knows(2), 0b1111);
        CrashRounds down = planned(of(VECTOR, 4, 2, 1, 0), new int[] {3, 1, 0b0100});
        down.step();
        due("knows(1): 2 had 3's input in no letter yet", down.knows(1), 0b0111);
        due("knows(0)", down.knows(0), 0b0111);
        CrashRounds marks = planned(of(UNIFORM, 4, 2, 1, 0), new int[] {0, 1, 0b0010});
        marks.step();
        due("count(8): 1's new mark is in no letter yet", marks.count(8), 0b0010);
    }

    private static void downChangesNoMore() {
        sentence("One that is down changes no more.");
        for (int algorithm = FLOOD; algorithm <= ROTOR; algorithm++) {
            CrashRounds x = planned(of(algorithm, 4, 3, 1, 0, 5, 1, 7, 9),
                    new int[] {2, 1, 0b1111});
            int atFirst = x.knows(2);
            for (int round = 1; round <= x.count(2); round++) {
                x.step();
                due("knows(2)", x.knows(2), atFirst);
                due("heard(2)", x.heard(2), 4);
                due("decided(2)", x.decided(2), NONE);
                due("decidedIn(2)", x.decidedIn(2), 0);
                due("count(7)", x.count(7), 0b1011);
                due("mark of 2", x.count(8) & 0b0100, 0);
            }
        }
        CrashRounds marked = planned(of(UNIFORM, 4, 3, 1, 0), new int[] {2, 2, 0});
        marked.run();
        due("count(8): a mark stays", marked.count(8), 0b1111);
        CrashRounds early = planned(of(EARLY, 4, 3, 1, 0), new int[] {2, 2, 0});
        early.run();
        due("decidedIn(2), before it crashed", early.decidedIn(2), 1);
    }

    private static void less() {
        sentence("R is less by LESS (0 .. 2), 1 at least");
        CrashRounds x = new CrashRounds();
        for (int algorithm = FLOOD; algorithm <= ROTOR; algorithm++) {
            for (int t = 0; t <= 3; t++) {
                for (int less = 0; less <= 2; less++) {
                    int rounds = t + 1 - less < 1 ? 1 : t + 1 - less;
                    due("start", x.start(algorithm, 4, t, 1, less), rounds);
                    due("count(2)", x.count(2), rounds);
                }
            }
            due("LESS = -1", x.start(algorithm, 4, 3, 1, -1), BAD);
            due("LESS = 3", x.start(algorithm, 4, 3, 1, 3), BAD);
        }
    }

    private static void floodRounds() {
        sentence("FLOOD, T + 1: .. In round R it decides");
        for (int algorithm : new int[] {FLOOD, LEAST, VECTOR, COMMIT, ROTOR}) {
            for (int t = 0; t <= 3; t++) {
                CrashRounds x = of(algorithm, 4, t, 1, 0, 1, 1, 1, 1);
                for (int round = 1; round <= t; round++) {
                    x.step();
                    due("decidedIn(0) before round R", x.decidedIn(0), 0);
                    due("decided(0) before round R", x.decided(0), NONE);
                }
                x.step();
                due("decidedIn(0)", x.decidedIn(0), t + 1);
                due("decided(0)", x.decided(0), algorithm == VECTOR ? 4 : 1);
            }
        }
    }

    private static void floodLeast() {
        sentence("a process knows a set of values .. it decides the least one of it");
        CrashRounds x = of(FLOOD, 3, 0, 1, 0, 15, 15, 15);
        due("knows(0), one value at first", x.knows(0), 1 << 15);
        x.run();
        due("knows(0), the same value from all", x.knows(0), 1 << 15);
        due("decided(0), the greatest value", x.decided(0), 15);
        x.again();
        x.input(2, 0);
        x.run();
        due("knows(0), the greatest and the least value", x.knows(0), 1 << 15 | 1);
        due("decided(0), the least value", x.decided(0), 0);
        CrashRounds full = of(FLOOD, 8, 1, 1, 0, 15, 14, 13, 12, 11, 10, 9, 8);
        full.run();
        due("knows(0), eight values", full.knows(0), 0xff00);
        due("decided(0)", full.decided(0), 8);
    }

    private static void earlyAsManyAsBefore() {
        sentence("It decides it in the first round in which it heard from as many as in"
                + " the one before");
        CrashRounds calm = of(EARLY, 4, 3, 1, 0, 15, 14, 15, 15);
        due("decidedIn(0) at first", calm.decidedIn(0), 0);
        calm.step();
        due("decidedIn(0): n before the first round, n in it", calm.decidedIn(0), 1);
        due("decided(0)", calm.decided(0), 14);
        // Process 4 hears from 4, 3 and 3; process 3 from 5, 3 and 3.
        CrashRounds x = planned(of(EARLY, 5, 3, 1, 0, 1, 2, 3, 4, 5),
                new int[] {0, 1, 0b01000}, new int[] {1, 2, 0});
        x.step();
        due("heard(3)", x.heard(3), 5);
        due("decidedIn(3)", x.decidedIn(3), 1);
        due("heard(4)", x.heard(4), 4);
        due("decidedIn(4), one fewer than before", x.decidedIn(4), 0);
        x.step();
        due("heard(4)", x.heard(4), 3);
        due("decidedIn(4), again one fewer", x.decidedIn(4), 0);
        x.step();
        due("heard(4)", x.heard(4), 3);
        due("decidedIn(4), as many", x.decidedIn(4), 3);
        x.step();
        due("decidedIn(3), the first such round stays", x.decidedIn(3), 1);
        due("decidedIn(4), the first such round stays", x.decidedIn(4), 3);
    }

    private static void earlyInTheLastRound() {
        sentence("or in round R");
        // Processes 3 and 4 hear from fewer in each round.
        CrashRounds x = planned(of(EARLY, 5, 3, 1, 1, 5, 5, 5, 3, 4),
                new int[] {0, 1, 0}, new int[] {1, 2, 0}, new int[] {2, 3, 0});
        x.step();
        x.step();
        due("decidedIn(4) before round R", x.decidedIn(4), 0);
        x.step();
        due("heard(4)", x.heard(4), 2);
        due("decidedIn(4)", x.decidedIn(4), 3);
        due("decided(4)", x.decided(4), 3);
        due("decidedIn(2), which crashes in round R", x.decidedIn(2), 0);
        CrashRounds one = planned(of(EARLY, 3, 1, 1, 1), new int[] {0, 1, 0});
        one.run();
        due("decidedIn(1), round R is the first", one.decidedIn(1), 1);
    }

    private static void earlyGoesOn() {
        sentence("it goes on then as before");
        CrashRounds x = planned(of(EARLY, 4, 3, 1, 0, 9, 8, 7, 6), new int[] {3, 4, 0});
        x.step();
        due("decidedIn(0)", x.decidedIn(0), 1);
        for (int round = 2; round <= 4; round++) {
            x.step();
            due("count(4)", x.count(4), round < 4 ? 12 * round : 12 * 3 + 9);
            due("heard(0)", x.heard(0), round < 4 ? 4 : 3);
            due("decidedIn(0)", x.decidedIn(0), 1);
            due("decided(0)", x.decided(0), 6);
        }
        // Process 1 decides the least value first, and the others have it from its letter then.
        CrashRounds y = planned(of(EARLY, 4, 3, 1, 0, 0, 8, 7, 6),
                new int[] {0, 1, 0b0010});
        y.step();
        due("decidedIn(1)", y.decidedIn(1), 1);
        due("knows(2)", y.knows(2), 6);
        y.step();
        due("knows(2)", y.knows(2), 0);
    }

    private static void uniformMark() {
        sentence("instead of deciding, when it heard from as many, it has a MARK");
        CrashRounds x = planned(of(UNIFORM, 5, 3, 1, 0), new int[] {0, 1, 0b00110});
        due("count(8) at first", x.count(8), 0);
        x.step();
        due("count(8), as many for 1 and 2, one fewer for others", x.count(8), 0b00110);
        due("decided(1)", x.decided(1), NONE);
        CrashRounds all = of(UNIFORM, 8, 3, 1, 0);
        all.step();
        due("count(8), all of eight", all.count(8), 0xff);
        CrashRounds none = planned(of(UNIFORM, 8, 3, 1, 0), new int[] {7, 1, 0});
        none.step();
        due("count(8), none of eight", none.count(8), 0);
        none.step();
        due("count(8), as many as in round 1", none.count(8), 0x7f);
        for (int algorithm = FLOOD; algorithm <= ROTOR; algorithm++) {
            CrashRounds other = of(algorithm, 4, 1, 1, 0);
            other.run();
            due("count(8)", other.count(8), algorithm == UNIFORM ? 0b1111 : 0);
        }
    }

    private static void uniformLastRoundAlone() {
        sentence("(round R alone gives none)");
        CrashRounds x = planned(of(UNIFORM, 5, 3, 1, 1),
                new int[] {0, 1, 0}, new int[] {1, 2, 0}, new int[] {2, 3, 0});
        x.run();
        due("heard(4)", x.heard(4), 2);
        due("decidedIn(4)", x.decidedIn(4), 3);
        due("count(8)", x.count(8), 0);
        CrashRounds one = of(UNIFORM, 4, 0, 1, 0);
        one.run();
        due("count(8), but as many in round R do", one.count(8), 0b1111);
    }

    private static void uniformMarkStays() {
        sentence("it has a MARK from then on");
        CrashRounds x = planned(of(UNIFORM, 5, 3, 1, 0),
                new int[] {0, 2, 0}, new int[] {1, 3, 0}, new int[] {2, 4, 0});
        for (int round = 1; round <= 4; round++) {
            x.step();
            due("heard(4)", x.heard(4), 6 - round);
            due("count(8)", x.count(8), 0b11111);
        }
    }

    private static void uniformMarkByLetter() {
        sentence("(in its letters, too); it also has one behind a round in which it got a"
                + " letter with a mark");
        CrashRounds x = planned(of(UNIFORM, 5, 3, 1, 0, 0, 5, 6, 7, 8),
                new int[] {0, 1, 0b00010}, new int[] {1, 2, 0b00100}, new int[] {2, 3, 0b01000});
        x.step();
        due("count(8), 1 heard from as many", x.count(8), 0b00010);
        x.step();
        due("count(8), 2 got its letter, 3 and 4 did not", x.count(8), 0b00110);
        due("heard(2)", x.heard(2), 4);
        due("heard(3)", x.heard(3), 3);
        x.step();
        due("count(8), 3 got that of 2, 4 did not", x.count(8), 0b01110);
        due("heard(3)", x.heard(3), 3);
        due("heard(4)", x.heard(4), 2);
        // With LESS = 2 round 2 is round R.
        for (int less = 0; less <= 2; less += 2) {
            CrashRounds byLetterAlone = planned(of(UNIFORM, 5, 3, 1, less),
                    new int[] {0, 1, 0b00010}, new int[] {2, 2, 0});
            byLetterAlone.step();
            byLetterAlone.step();
            due("heard(4), one fewer than before", byLetterAlone.heard(4), 3);
            due("count(8)", byLetterAlone.count(8), 0b11010);
        }
    }

    private static void uniformDecides() {
        sentence("A process that sent a letter with a mark in a round decides in that round"
                + " the value that stood in that letter");
        CrashRounds x = planned(of(UNIFORM, 4, 3, 1, 0, 15, 14, 13, 12),
                new int[] {3, 1, 0b0001});
        x.step();
        due("count(8)", x.count(8), 0b0001);
        due("decidedIn(0), marked, but it sent none yet", x.decidedIn(0), 0);
        x.step();
        due("decidedIn(0), which sent one", x.decidedIn(0), 2);
        due("decided(0)", x.decided(0), 12);
        due("decidedIn(1), which got one", x.decidedIn(1), 0);
        x.step();
        due("decidedIn(1), which sent one", x.decidedIn(1), 3);
        due("decided(1)", x.decided(1), 12);
    }

    private static void uniformDecidesOnce() {
        sentence("(if it did not before");
        CrashRounds x = of(UNIFORM, 4, 3, 1, 0, 3, 4, 5, 6);
        for (int round = 1; round <= 4; round++) {
            x.step();
            due("decidedIn(0)", x.decidedIn(0), round < 2 ? 0 : 2);
            due("decided(0)", x.decided(0), round < 2 ? NONE : 3);
        }
    }

    private static void uniformUpBehindIt() {
        sentence("and if it is up behind it)");
        for (int round = 1; round <= 4; round++) {
            CrashRounds x = planned(of(UNIFORM, 4, 3, 1, 0),
                    new int[] {1, round, 0b1111});
            x.run();
            due("decidedIn(1), it sends its mark in round 2", x.decidedIn(1),
                    round <= 2 ? 0 : 2);
            due("decidedIn(0)", x.decidedIn(0), 2);
        }
    }

    private static void uniformOthersInTheLastRound() {
        sentence("in round R all others decide what they know then");
        // 1 has its mark in round 1, 2 gets it in round 2 (R), 3 and 4 have none.
        CrashRounds x = planned(of(UNIFORM, 5, 3, 1, 2, 0, 5, 6, 7, 8),
                new int[] {0, 1, 0b00010}, new int[] {1, 2, 0b00100});
        x.step();
        due("decided(2) before round R", x.decided(2), NONE);
        x.step();
        due("count(8)", x.count(8), 0b00110);
        due("decided(1), which is down", x.decided(1), NONE);
        due("decided(2), with a mark that it did not send", x.decided(2), 0);
        due("decidedIn(2)", x.decidedIn(2), 2);
        due("decided(3), without a mark", x.decided(3), 5);
        due("decidedIn(3)", x.decidedIn(3), 2);
        CrashRounds one = of(UNIFORM, 3, 0, 1, 0, 3, 2, 1);
        one.run();
        due("decided(0), R is 1", one.decided(0), 1);
        due("decidedIn(0), R is 1", one.decidedIn(0), 1);
    }

    private static void leastRounds() {
        sentence("LEAST, T / K (cut off) + 1, K of 1 .. 3");
        int[][] rounds = {{1, 2, 3, 4}, {1, 1, 2, 2}, {1, 1, 1, 2}};
        CrashRounds x = new CrashRounds();
        for (int k = 1; k <= 3; k++) {
            for (int t = 0; t <= 3; t++) {
                int r = rounds[k - 1][t];
                due("start", x.start(LEAST, 4, t, k, 0), r);
                due("start", x.start(LEAST, 4, t, k, 1), r > 1 ? r - 1 : 1);
                due("start", x.start(LEAST, 4, t, k, 2), r > 2 ? r - 2 : 1);
                due("count(1)", x.count(1), t);
            }
        }
        for (int k : new int[] {0, -1, 4, FAR, LOW}) {
            for (int algorithm = FLOOD; algorithm <= ROTOR; algorithm++) {
                due("K = " + k, x.start(algorithm, 4, 3, k, 0), BAD);
            }
        }
        for (int k = 1; k <= 3; k++) {
            due("K does not matter to FLOOD", x.start(FLOOD, 4, 3, k, 0), 4);
        }
    }

    private static void leastAlone() {
        sentence("as FLOOD, but it knows the least value alone");
        CrashRounds x = of(LEAST, 3, 2, 1, 0, 15, 15, 15);
        due("knows(0) at first", x.knows(0), 15);
        x.step();
        due("knows(0), 15 from all", x.knows(0), 15);
        x.again();
        x.input(2, 0);
        x.step();
        due("knows(0), 0 from one", x.knows(0), 0);
        due("knows(2)", x.knows(2), 0);
        x.run();
        due("decided(0)", x.decided(0), 0);
    }

    private static void vectorHowMany() {
        sentence("VECTOR, T + 1: it knows the inputs of some processes, its own at first;"
                + " .. In round R it decides how many it knows.");
        CrashRounds alone = planned(of(VECTOR, 2, 1, 1, 0), new int[] {1, 1, 0});
        due("knows(0) at first", alone.knows(0), 0b01);
        due("knows(1) at first", alone.knows(1), 0b10);
        alone.run();
        due("knows(0), its own alone", alone.knows(0), 0b01);
        due("decided(0), its own alone", alone.decided(0), 1);
        CrashRounds all = of(VECTOR, 8, 0, 1, 0);
        all.run();
        due("knows(7), all", all.knows(7), 0xff);
        due("decided(7), all", all.decided(7), 8);
    }

    private static void commitAllAndNoneZero() {
        sentence("COMMIT: it decides 1, if it knows all n inputs and none is 0, else 0");
        CrashRounds x = of(COMMIT, 8, 0, 1, 0, 1, 15, 2, 3, 4, 5, 6, 7);
        x.run();
        due("decided(0), all, none is 0", x.decided(0), 1);
        for (int p = 0; p < 8; p++) {
            x.again();
            int before = x.input(p, 0);
            x.run();
            due("decided(0), all, one is 0", x.decided(0), 0);
            due("decided(7), all, one is 0", x.decided(7), 0);
            x.again();
            x.input(p, before);
        }
        CrashRounds y = planned(of(COMMIT, 4, 1, 1, 1, 1, 1, 1, 1),
                new int[] {3, 1, 0b0001});
        y.run();
        due("decided(0), all", y.decided(0), 1);
        due("decided(1), all but one", y.decided(1), 0);
    }

    private static void rotorSenders() {
        sentence("in round r only process (r - 1) modulo n sends");
        // T is below n, so no round goes beyond process n - 1: round n is the last there is.
        for (int n = 2; n <= 4; n++) {
            CrashRounds x = of(ROTOR, n, n - 1, 1, 0, 1, 2, 3, 4);
            for (int p = 0; p < n - 1; p++) {
                x.crash(p, p + 1, 0);
            }
            for (int round = 1; round <= n; round++) {
                due("step()", x.step(), round);
                due("count(4)", x.count(4), round < n ? 0 : n - 1);
                due("heard(n - 1)", x.heard(n - 1), round < n ? 0 : 1);
            }
            due("decided(n - 1)", x.decided(n - 1), n);
            due("step() behind round n", x.step(), BAD);
        }
        CrashRounds all = of(ROTOR, 8, 3, 1, 0);
        for (int round = 1; round <= 4; round++) {
            all.step();
            due("count(4), one sends to seven", all.count(4), 7 * round);
        }
    }

    private static void rotorWhoeverGets() {
        sentence("whoever gets that knows it then");
        CrashRounds x = planned(of(ROTOR, 4, 2, 1, 0, 15, 0, 7, 8),
                new int[] {0, 1, 0b0110});
        x.step();
        due("knows(0), down", x.knows(0), 15);
        due("knows(1), a greater value than its own", x.knows(1), 15);
        due("knows(2)", x.knows(2), 15);
        due("knows(3), not reached", x.knows(3), 8);
        due("heard(3)", x.heard(3), 0);
        x.step();
        due("knows(3)", x.knows(3), 15);
        due("knows(1), the sender", x.knows(1), 15);
        due("decided(3) before round R", x.decided(3), NONE);
        x.step();
        due("decided(3)", x.decided(3), 15);
        CrashRounds down = planned(of(ROTOR, 3, 1, 1, 0, 1, 2, 3), new int[] {1, 1, 7});
        down.run();
        due("knows(2), 1 is down in its round", down.knows(2), 1);
        due("heard(2)", down.heard(2), 0);
        due("count(4)", down.count(4), 2);
        due("decided(2)", down.decided(2), 1);
    }

    private static void sound() {
        sentence("SOUND are processes that do not crash in rounds 1 to R");
        for (int round = 1; round <= 20; round++) {
            // Process 0 reaches process 1 alone; it disagrees with those that it did not reach.
            CrashRounds x = planned(of(FLOOD, 3, 2, 1, 2, 5, 6, 7),
                    new int[] {0, 1, 0b010}, new int[] {1, round, 0b101});
            x.run();
            due("breach() with 1 crashing in round " + round, x.breach(),
                    round <= 1 ? 0 : 1);
            due("count(5)", x.count(5), round <= 1 ? 2 : 1);
            due("decided(1)", x.decided(1), round <= 1 ? NONE : 5);
        }
    }

    private static void faults() {
        sentence("F is how many others there are");
        CrashRounds x = of(FLOOD, 4, 3, 1, 1);
        due("count(5), none", x.count(5), 0);
        x.crash(0, 1, 0);
        due("count(5), one in round 1", x.count(5), 1);
        x.crash(1, 3, 0);
        due("count(5), one in round R", x.count(5), 2);
        x.crash(2, 4, 0);
        due("count(5), one behind round R", x.count(5), 2);
        x.crash(2, 2, 0);
        due("count(5), T of them", x.count(5), 3);
        x.step();
        due("count(5), also of rounds to come", x.count(5), 3);
        x.run();
        due("count(5)", x.count(5), 3);
        x.again();
        x.spare(0);
        due("count(5)", x.count(5), 2);
    }

    private static void bound() {
        sentence("The BOUND is the lesser of F + 2 and R for 1 and 2, else R.");
        for (int algorithm = FLOOD; algorithm <= ROTOR; algorithm++) {
            boolean early = algorithm == EARLY || algorithm == UNIFORM;
            CrashRounds x = of(algorithm, 5, 3, 1, 0);
            due("F + 2 is 2, R is 4", x.count(6), early ? 2 : 4);
            x.crash(0, 4, 0);
            due("F + 2 is 3, R is 4", x.count(6), early ? 3 : 4);
            x.crash(1, 5, 0);
            due("F + 2 is 3 still", x.count(6), early ? 3 : 4);
            x.crash(1, 4, 0);
            due("F + 2 is 4, R is 4", x.count(6), 4);
            x.crash(2, 4, 0);
            due("F + 2 is 5, R is 4", x.count(6), 4);
            x.start(algorithm, 5, 3, 1, 2);
            due("F + 2 is 2, R is 2", x.count(6), 2);
            x.start(algorithm, 5, 0, 1, 0);
            due("F + 2 is 2, R is 1", x.count(6), 1);
        }
    }

    private static void breachWhenOver() {
        sentence("A BREACH of a run, when its rounds are over");
        for (int algorithm = FLOOD; algorithm <= ROTOR; algorithm++) {
            CrashRounds x = of(algorithm, 4, 3, 1, 0);
            for (int round = 0; round < 4; round++) {
                due("breach() behind " + round + " rounds", x.breach(), BAD);
                x.step();
            }
            due("breach() behind round R", x.breach(), 0);
        }
    }

    private static void breachOfTwoSound() {
        sentence("1 two sound processes decided different values");
        for (int algorithm : new int[] {FLOOD, EARLY, UNIFORM, ROTOR}) {
            // K is for LEAST alone.
            for (int k = 1; k <= 3; k++) {
                CrashRounds x = planned(of(algorithm, 3, 1, k, 1, 1, 2, 2),
                        new int[] {0, 1, 0b010});
                x.run();
                due("decided(1)", x.decided(1), 1);
                due("decided(2)", x.decided(2), 2);
                due("breach(), two are different", x.breach(), 1);
                x.again();
                x.input(0, 2);
                x.run();
                due("breach(), the values are the same", x.breach(), 0);
                due("search(2)", x.search(2), 1);
            }
        }
        CrashRounds alone = planned(of(FLOOD, 2, 1, 1, 1, 1, 2), new int[] {0, 1, 0});
        alone.run();
        due("breach(), one is sound alone", alone.breach(), 0);
        CrashRounds unsound = planned(of(EARLY, 5, 3, 1, 0, 0, 5, 6, 7, 8),
                new int[] {0, 1, 0b00010}, new int[] {1, 2, 0});
        unsound.run();
        due("decided(1)", unsound.decided(1), 0);
        due("decided(2)", unsound.decided(2), 5);
        due("breach(), the other one is not sound", unsound.breach(), 0);
    }

    private static void breachOfAnyTwo() {
        sentence("two sound processes decided different values, whichever they are");
        for (int algorithm = FLOOD; algorithm <= ROTOR; algorithm++) {
            for (int n = 3; n <= 8; n++) {
                // Only process 0 sends in round 1 of ROTOR.
                int crashing = algorithm == ROTOR ? 0 : n - 1;
                for (int reached = 0; reached < n; reached++) {
                    if (reached != crashing) {
                        dueBreachOfOneReached(algorithm, n, crashing, reached);
                    }
                }
            }
        }
    }

    /** One is reached and decides otherwise than all others. */
    private static void dueBreachOfOneReached(int algorithm, int n, int crashing, int reached) {
        CrashRounds x = of(algorithm, n, 1, 1, 1);
        for (int p = 0; p < n; p++) {
            x.input(p, p == crashing ? 1 : 2);
        }
        x.crash(crashing, 1, 1 << reached);
        x.run();
        due("breach(), " + reached + " alone is reached", x.breach(), 1);
    }

    private static void breachOfLeast() {
        sentence("LEAST: the sound ones more than K different ones");
        for (int k = 1; k <= 3; k++) {
            // One round is left of R with these.
            int t = k == 1 ? 2 : 3;
            for (int crashes = 0; crashes <= t; crashes++) {
                CrashRounds x = of(LEAST, 8, t, k, 2, 0, 1, 2, 3, 4, 5, 6, 7);
                // Each crashing one reaches one alone, which decides its value.
                for (int p = 0; p < crashes; p++) {
                    x.crash(p, 1, 1 << (p + 3));
                }
                due("run()", x.run(), 1);
                for (int p = 0; p < crashes; p++) {
                    due("decided, reached", x.decided(p + 3), p);
                }
                due("decided(7), not reached", x.decided(7), crashes);
                due("breach() of " + (crashes + 1) + " values, K = " + k, x.breach(),
                        crashes + 1 > k ? 1 : 0);
            }
        }
    }

    private static void breachOfUniform() {
        sentence("UNIFORM: two of all that decided, sound or not");
        // By its rules one that decides before it crashes reached all, so all decide the same.
        CrashRounds x = planned(of(UNIFORM, 4, 3, 1, 0, 0, 5, 6, 7),
                new int[] {0, 1, 0b0010}, new int[] {1, 3, 0});
        x.run();
        due("decided(1), which crashes then", x.decided(1), 0);
        due("decidedIn(1)", x.decidedIn(1), 2);
        due("decided(3)", x.decided(3), 0);
        due("breach()", x.breach(), 0);
    }

    private static void breachOfVector() {
        sentence("VECTOR: two sound ones know different inputs");
        CrashRounds x = planned(of(VECTOR, 4, 2, 1, 2),
                new int[] {0, 1, 0b0100}, new int[] {1, 1, 0b1000});
        x.run();
        due("knows(2)", x.knows(2), 0b1101);
        due("knows(3)", x.knows(3), 0b1110);
        due("decided(2)", x.decided(2), 3);
        due("decided(3), as many", x.decided(3), 3);
        due("breach(), of other processes", x.breach(), 1);
        CrashRounds same = planned(of(VECTOR, 4, 2, 1, 2, 1, 2, 3, 4),
                new int[] {0, 1, 0b0010}, new int[] {1, 1, 0});
        same.run();
        due("knows(1), which is down", same.knows(1), 0b0010);
        due("breach(), the sound ones know the same", same.breach(), 0);
    }

    private static void breachOfNobodysInput() {
        sentence("2 some process decided what is nobody's input");
        // By the rules nobody ever does; a decided 0 or 15 must be looked for among the inputs.
        for (int algorithm : new int[] {FLOOD, EARLY, UNIFORM, LEAST, ROTOR}) {
            for (int[] inputs : new int[][] {{15, 15, 15}, {0, 0, 0}, {0, 15, 15}, {15, 14, 0}}) {
                CrashRounds x = of(algorithm, 3, 1, 1, 0, inputs);
                x.run();
                due("breach()", x.breach(), 0);
                x.again();
                // The input of one that reaches nobody is somebody's, too.
                x.crash(2, 2, 0);
                x.run();
                due("breach()", x.breach(), 0);
            }
        }
    }

    private static void breachOfMissedInputs() {
        sentence("VECTOR: a sound one does not know the input of some sound one");
        CrashRounds x = planned(of(VECTOR, 4, 3, 1, 2),
                new int[] {0, 1, 0}, new int[] {1, 1, 0}, new int[] {2, 1, 0});
        x.run();
        due("knows(3), no input of the three others", x.knows(3), 0b1000);
        due("breach(), none of them is sound", x.breach(), 0);
        CrashRounds all = of(VECTOR, 8, 0, 1, 0);
        all.run();
        due("breach(), all are sound and known", all.breach(), 0);
    }

    private static void breachOfCommit() {
        sentence("COMMIT: one decided 1 and some input is 0, or 0, no input is 0 and F is 0");
        CrashRounds x = of(COMMIT, 3, 1, 2, 1, 1, 1, 1);
        x.run();
        due("breach(): 1, no input is 0", x.breach(), 0);
        x.again();
        x.input(2, 0);
        x.run();
        due("breach(): 0, some input is 0, F is 0", x.breach(), 0);
        x.again();
        x.input(2, 1);
        x.crash(2, 1, 0);
        x.run();
        due("decided(0)", x.decided(0), 0);
        due("breach(): 0, no input is 0, F is 1", x.breach(), 0);
        x.again();
        x.crash(2, 1, 0b001);
        x.run();
        due("breach(): 1 and 0", x.breach(), 1);
    }

    private static void breachOfLateDecision() {
        sentence("3 a sound one did not decide up to round BOUND");
        // UNIFORM needs a round to see each crash, one for its mark and one to send that.
        for (int crashes = 0; crashes <= 3; crashes++) {
            CrashRounds x = of(UNIFORM, 5, 3, 1, 0);
            for (int p = 0; p < crashes; p++) {
                x.crash(p, p + 1, 0);
            }
            x.run();
            due("count(6)", x.count(6), Math.min(crashes + 2, 4));
            due("decidedIn(4), in round BOUND", x.decidedIn(4), x.count(6));
            due("breach()", x.breach(), 0);
        }
        CrashRounds down = planned(of(EARLY, 3, 2, 1, 0), new int[] {0, 1, 0}, new int[] {1, 3, 0});
        down.run();
        due("decidedIn(0), which is not sound", down.decidedIn(0), 0);
        due("breach()", down.breach(), 0);
    }

    private static void breachNone() {
        sentence("0 is none.");
        for (int algorithm = FLOOD; algorithm <= ROTOR; algorithm++) {
            for (int t = 0; t <= 3; t++) {
                CrashRounds x = of(algorithm, 5, t, 1, 0, 5, 4, 3, 2, 1);
                for (int p = 0; p < t; p++) {
                    x.crash(p, p + 1, 1 << (p + 1));
                }
                x.run();
                due("breach() with T crashes in T + 1 rounds", x.breach(), 0);
            }
        }
    }

    private static void searchInputs() {
        sentence("A SEARCH, for inputs 0 .. d - 1");
        for (int algorithm = FLOOD; algorithm <= ROTOR; algorithm++) {
            CrashRounds x = of(algorithm, 3, 1, 1, 1, 15, 14, 13);
            for (int d = 1; d <= 3; d++) {
                // Of one value none can differ, but whose inputs are known can.
                due("search(" + d + ")", x.search(d), d == 1 && algorithm != VECTOR ? 0 : 1);
                for (int p = 0; p < 3 && x.found(0, 0) != BAD; p++) {
                    due("an input below d", x.found(5, p) < d ? 1 : 0, 1);
                }
            }
        }
        due("search(3), K is 2 and two are sound", of(LEAST, 4, 2, 2, 2).search(3), 0);
    }

    private static void searchPlans() {
        sentence("goes over all runs with plans of at most T crashes in rounds 1 to R");
        // One crash more breaks ROTOR at once, and it is the first run behind those with T crashes.
        for (int d = 1; d <= 3; d++) {
            due("search, T is 0", of(ROTOR, 3, 0, 1, 0).search(d), 0);
            due("search, T is 1", of(ROTOR, 4, 1, 1, 0).search(d), 0);
        }
        due("search(2), T is 2", of(ROTOR, 4, 2, 1, 0).search(2), 0);
        due("search(2), one crash and R = 1", of(0, 3, 1, 1, 1).search(2), 1);
        due("search(2), one crash and R = 2", of(0, 3, 1, 1, 0).search(2), 0);
        CrashRounds two = of(FLOOD, 4, 2, 1, 1);
        due("search(2), two crashes and R = 2", two.search(2), 1);
        due("found(1, 0), T of them", two.found(1, 0), 2);
        due("found(3, 1), in round R", two.found(3, 1), 2);
        due("search(2), two crashes and R = 3", of(0, 4, 2, 1, 0).search(2), 0);
    }

    private static void orderBySize() {
        sentence("They are IN ORDER by how many processes crash");
        for (int algorithm = FLOOD; algorithm <= ROTOR; algorithm++) {
            CrashRounds x = of(algorithm, 4, 2, 1, 2);
            due("search(2)", x.search(2), 1);
            due("found(1, 0), one is enough when R is 1", x.found(1, 0), 1);
            due("found(2, 1)", x.found(2, 1), BAD);
        }
    }

    private static void orderByBits() {
        sentence("by the number that these are as bits");
        for (int algorithm = FLOOD; algorithm <= COMMIT; algorithm++) {
            CrashRounds one = of(algorithm, 4, 1, 1, 1);
            due("search(2)", one.search(2), 1);
            due("found(2, 0)", one.found(2, 0), 0);
            CrashRounds two = of(algorithm, 4, 2, 1, 1);
            due("search(2)", two.search(2), 1);
            due("found(2, 0)", two.found(2, 0), 0);
            due("found(2, 1)", two.found(2, 1), 1);
        }
    }

    private static void orderFromTheLeastOn() {
        sentence("then, for the crashing ones from the least on, by the round");
        // That 1 crashes in round 1 and 0 in round 2 would be a breach, too.
        CrashRounds x = of(FLOOD, 4, 2, 1, 1);
        due("search(2)", x.search(2), 1);
        due("found(3, 0)", x.found(3, 0), 1);
        due("found(4, 0)", x.found(4, 0), 0b0010);
        due("found(3, 1)", x.found(3, 1), 2);
        due("found(4, 1)", x.found(4, 1), 0b0100);
        CrashRounds other = planned(of(FLOOD, 4, 2, 1, 1, 1, 0, 1, 1),
                new int[] {1, 1, 0b0001}, new int[] {0, 2, 0b0100});
        other.run();
        due("breach() of the other run", other.breach(), 1);
    }

    private static void orderByReach() {
        sentence("and the reach as bits (without its own one)");
        for (int n = 3; n <= 6; n++) {
            CrashRounds x = of(FLOOD, n, 1, 1, 1);
            due("search(2)", x.search(2), 1);
            due("found(4, 0), the least that is not empty", x.found(4, 0), 0b10);
        }
        CrashRounds empty = of(ROTOR, 4, 2, 1, 1);
        due("search(2)", empty.search(2), 1);
        due("found(4, 0), an empty one is the first", empty.found(4, 0), 0);
        due("found(4, 1), an empty one is the first", empty.found(4, 1), 0);
    }

    private static void orderByInputs() {
        sentence("then by the inputs, that of process p counting d to the power of p");
        for (int d = 2; d <= 3; d++) {
            // ROTOR: 0 reaches nobody, so 1 and 2 decide their own: 0 1 0 comes before 0 0 1.
            CrashRounds rotor = of(ROTOR, 3, 1, 1, 1);
            due("search", rotor.search(d), 1);
            same("inputs of ROTOR", inputsFound(rotor), " 0 1 0");
            CrashRounds flood = of(FLOOD, 3, 1, 1, 1);
            due("search", flood.search(d), 1);
            same("inputs of FLOOD", inputsFound(flood), " 0 1 1");
            CrashRounds commit = of(COMMIT, 3, 1, 1, 1);
            due("search", commit.search(d), 1);
            same("inputs of COMMIT", inputsFound(commit), " 1 1 1");
            CrashRounds vector = of(VECTOR, 3, 1, 1, 1);
            due("search", vector.search(d), 1);
            same("inputs of VECTOR", inputsFound(vector), " 0 0 0");
        }
    }

    private static String inputsFound(CrashRounds x) {
        StringBuilder told = new StringBuilder();
        for (int p = 0; p < x.count(0); p++) {
            told.append(' ').append(x.found(5, p));
        }
        return told.toString();
    }
}
