import java.util.ArrayList;
import java.util.Comparator;
import java.util.HashMap;
import java.util.HashSet;
import java.util.List;
import java.util.Map;
import java.util.Set;
import java.util.TreeMap;
import java.util.TreeSet;

/**
 * Compares the class with a second one that is written from the document in another way: it moves
 * values, not the sets of those whose values they are, and a search there makes a list of all runs
 * and sorts it.
 */
public final class ModelTest {
    private static final int WALKS = 6000;
    private static final int RUNS = 60000;
    /** Nothing is promised of an object behind these. */
    private static final int WALK_CALLS = 512;
    private static final int RUNS_COMPARED = 3000;

    /** Texts made once, as millions of answers are compared. */
    private static final String[] VECTOR_OF = new String[11];

    private static int wrong = 0;
    private static long state = 20261115;

    public static void main(String[] args) {
        for (int q = -1; q + 1 < VECTOR_OF.length; q++) {
            VECTOR_OF[q + 1] = "vector of " + q + " by";
        }
        for (int walk = 0; walk < WALKS && wrong < 20; walk++) {
            compareWalk(walk);
        }
        for (int run = 0; run < RUNS && wrong < 20; run++) {
            compareRun();
        }
        compareSearches();
        System.out.println(wrong == 0 ? "all answers are the model's" : wrong + " answers are not");
        if (wrong != 0) {
            System.exit(1);
        }
    }

    /** A made-up row of numbers, always the same. */
    private static int pick(int below) {
        state = state * 6364136223846793005L + 1442695040888963407L;
        return (int) ((state >>> 33) % below);
    }

    /** Mostly a number of least .. greatest, now and then one beside it or a far one. */
    private static int about(int least, int greatest) {
        int kind = pick(40);
        if (kind == 0) {
            return least - 1;
        }
        if (kind == 1) {
            return greatest + 1;
        }
        if (kind == 2) {
            return pick(2) == 0 ? Integer.MIN_VALUE : Integer.MAX_VALUE;
        }
        return least + pick(greatest - least + 1);
    }

    private static void due(String call, int got, int want) {
        if (got != want) {
            wrong++;
            System.out.println(call + " answered " + got + ", the model says " + want);
        }
    }

    private static void due(CharSequence told, String call, int number, int got, int want) {
        if (got != want) {
            due(told + " " + call + " " + number, got, want);
        }
    }

    private static void compareWalk(int walk) {
        CrashRounds bench = new CrashRounds();
        Model model = new Model();
        StringBuilder told = new StringBuilder("walk " + walk + ":");
        int before = wrong;
        for (int call = 0; call < WALK_CALLS && wrong == before; call++) {
            // Many questions between two changes, as there is much to ask of each state.
            if (pick(16) == 0) {
                compareCall(told, bench, model);
            } else {
                compareAnswer(told, bench, model);
            }
        }
    }

    /** A run with as much in it as may be: all have an input, and often as many crash as may. */
    private static void compareRun() {
        CrashRounds bench = new CrashRounds();
        Model model = new Model();
        int n = 2 + pick(7);
        int t = pick(Math.min(4, n));
        int[] s = {pick(7), n, t, 1 + pick(3), pick(3)};
        String told = "start(" + s[0] + "," + n + "," + t + "," + s[3] + "," + s[4] + ")";
        due(told, bench.start(s[0], n, t, s[3], s[4]), model.start(s[0], n, t, s[3], s[4]));
        int values = 2 + pick(15);
        for (int p = 0; p < n; p++) {
            int value = pick(values);
            told += " " + value;
            due(told, bench.input(p, value), model.input(p, value));
        }
        for (int crash = 0; crash < t; crash++) {
            int p = pick(n);
            int round = 1 + pick(model.rounds + 1);
            int reach = pick(1 << n) & pick(1 << n);
            told += " crash(" + p + "," + round + "," + reach + ")";
            due(told, bench.crash(p, round, reach), model.crash(p, round, reach));
        }
        // Looked at twice, not behind each round, to stay below 512 calls.
        int looked = pick(model.rounds);
        for (int round = 1; round <= model.rounds; round++) {
            due(told + " step", bench.step(), model.step());
            if (round == looked || round == model.rounds) {
                compareState(told + " behind round " + round, bench, model);
            }
        }
    }

    private static void compareCall(StringBuilder told, CrashRounds bench, Model model) {
        int n = model.n;
        int a;
        int b;
        int c;
        switch (pick(14)) {
            case 0:
                int[] s = {about(0, 6), about(2, 8), about(0, 3), about(1, 3), about(0, 2)};
                told.append(" start(" + s[0] + "," + s[1] + "," + s[2] + "," + s[3] + "," + s[4] + ")");
                due(told.toString(), bench.start(s[0], s[1], s[2], s[3], s[4]),
                        model.start(s[0], s[1], s[2], s[3], s[4]));
                break;
            case 1: case 2: case 3: case 4:
                a = about(0, n - 1);
                b = about(0, 15);
                told.append(" input(" + a + "," + b + ")");
                due(told.toString(), bench.input(a, b), model.input(a, b));
                break;
            case 5: case 6: case 7:
                a = about(0, n - 1);
                b = pick(4) == 0 ? about(1, 20) : about(1, model.rounds);
                c = about(0, (1 << n) - 1);
                told.append(" crash(" + a + "," + b + "," + c + ")");
                due(told.toString(), bench.crash(a, b, c), model.crash(a, b, c));
                break;
            case 8:
                a = about(0, n - 1);
                told.append(" spare(" + a + ")");
                due(told.toString(), bench.spare(a), model.spare(a));
                break;
            case 9: case 10: case 11:
                told.append(" step()");
                due(told.toString(), bench.step(), model.step());
                break;
            case 12:
                told.append(" run()");
                due(told.toString(), bench.run(), model.run());
                break;
            default:
                told.append(" again()");
                due(told.toString(), bench.again(), model.again());
                break;
        }
    }

    private static void compareAnswer(CharSequence told, CrashRounds bench, Model model) {
        int p = pick(model.n + 3) - 1;
        int q = pick(model.n + 3) - 1;
        switch (pick(7)) {
            case 0:
                due(told, "decided", p, bench.decided(p), model.decided(p));
                break;
            case 1:
                due(told, "decidedIn", p, bench.decidedIn(p), model.decidedIn(p));
                break;
            case 2:
                due(told, "knows", p, bench.knows(p), model.knows(p));
                break;
            case 3:
                due(told, "heard", p, bench.heard(p), model.heard(p));
                break;
            case 4:
                due(told, VECTOR_OF[q + 1], p, bench.vector(p, q), model.vector(p, q));
                break;
            case 5:
                int which = pick(11) - 1;
                due(told, "count", which, bench.count(which), model.count(which));
                break;
            default:
                due(told, "breach", 0, bench.breach(), model.breach());
                break;
        }
    }

    private static void compareState(CharSequence told, CrashRounds bench, Model model) {
        int last = model.n + 1;
        for (int p = -1; p <= last; p++) {
            due(told, "decided", p, bench.decided(p), model.decided(p));
            due(told, "decidedIn", p, bench.decidedIn(p), model.decidedIn(p));
            due(told, "knows", p, bench.knows(p), model.knows(p));
            due(told, "heard", p, bench.heard(p), model.heard(p));
            for (int q = -1; q <= last; q++) {
                due(told, VECTOR_OF[q + 1], p, bench.vector(p, q), model.vector(p, q));
            }
        }
        for (int which = -1; which <= 9; which++) {
            due(told, "count", which, bench.count(which), model.count(which));
        }
        due(told, "breach", 0, bench.breach(), model.breach());
    }

    private static void compareSearches() {
        for (int algorithm = 0; algorithm <= 6; algorithm++) {
            for (int n = 2; n <= 8; n++) {
                for (int t = 0; t <= 3 && t < n; t++) {
                    for (int k = 1; k <= (algorithm == 3 ? 3 : 1); k++) {
                        for (int less = 0; less <= 2; less++) {
                            compareSearch(algorithm, n, t, k, less);
                        }
                    }
                }
            }
        }
        // These are near the most that a search goes over.
        compareSearch(2, 4, 2, 1, 0, 2, 60000);
        compareSearch(1, 5, 1, 1, 0, 3, 60000);
        compareSearch(3, 4, 2, 2, 1, 3, 60000);
    }

    private static void compareSearch(int algorithm, int n, int t, int k, int less) {
        for (int d = 0; d <= 4; d++) {
            compareSearch(algorithm, n, t, k, less, d, RUNS_COMPARED);
        }
    }

    private static void compareSearch(
            int algorithm, int n, int t, int k, int less, int d, long mostRuns) {
        String told = "start(" + algorithm + "," + n + "," + t + "," + k + "," + less + ") search("
                + d + ")";
        CrashRounds bench = new CrashRounds();
        bench.start(algorithm, n, t, k, less);
        if (d < 1 || d > 3) {
            due(told, bench.search(d), CrashRounds.BAD);
            return;
        }
        double runs = runsOf(n, t, bench.count(2), d);
        if (runs > 60000) {
            due(told, bench.search(d), CrashRounds.BIG);
        } else if (runs > mostRuns) {
            int breach = bench.search(d);
            due(told + " found(0,0)", bench.found(0, 0), breach == 0 ? CrashRounds.BAD : breach);
        } else {
            List<Model> all = allRuns(algorithm, n, t, k, less, d);
            due(told + " number of runs", all.size(), (int) runs);
            compareFound(told, bench, d, all);
        }
    }

    private static void compareFound(String told, CrashRounds bench, int d, List<Model> all) {
        bench.input(0, 9);
        bench.step();
        Model first = null;
        for (Model run : all) {
            run.run();
            if (run.breach() != 0) {
                first = run;
                break;
            }
        }
        due(told, bench.search(d), first == null ? 0 : first.breach());
        due(told + " count(3)", bench.count(3), 1);
        for (int which = -1; which <= 6; which++) {
            for (int j = -1; j <= 8; j++) {
                due(told + " found(" + which + "," + j + ")", bench.found(which, j),
                        first == null ? CrashRounds.BAD : first.told(which, j));
            }
        }
        due(told + " replay()", bench.replay(), first == null ? CrashRounds.BAD : first.breach());
        if (first != null) {
            first.again();
            compareState(told + " replay()", bench, first);
            first.run();
            bench.run();
            compareState(told + " replay() run()", bench, first);
        }
    }

    private static double runsOf(int n, int t, int rounds, int d) {
        double plans = 0;
        for (int set = 0; set < 1 << n; set++) {
            if (Integer.bitCount(set) <= t) {
                plans += Math.pow(rounds * Math.pow(2, n - 1), Integer.bitCount(set));
            }
        }
        return plans * Math.pow(d, n);
    }

    private static List<Model> allRuns(int algorithm, int n, int t, int k, int less, int d) {
        List<Model> plans = new ArrayList<>();
        Model bare = new Model();
        bare.start(algorithm, n, t, k, less);
        plans.add(bare);
        for (int p = 0; p < n; p++) {
            for (Model plan : new ArrayList<>(plans)) {
                for (int round = 1; round <= bare.rounds && plan.crashes.size() < t; round++) {
                    for (int reach = 0; reach < 1 << n; reach++) {
                        if ((reach >> p & 1) == 0) {
                            Model more = plan.copy();
                            more.crash(p, round, reach);
                            plans.add(more);
                        }
                    }
                }
            }
        }
        List<Model> runs = new ArrayList<>();
        for (Model plan : plans) {
            for (int number = 0; number < Math.round(Math.pow(d, n)); number++) {
                Model run = plan.copy();
                int rest = number;
                for (int p = 0; p < n; p++) {
                    run.input(p, rest % d);
                    rest /= d;
                }
                runs.add(run);
            }
        }
        runs.sort(inOrder(d));
        return runs;
    }

    private static Comparator<Model> inOrder(int d) {
        return (x, y) -> {
            List<Integer> one = x.place(d);
            List<Integer> other = y.place(d);
            for (int i = 0; i < one.size() && i < other.size(); i++) {
                int order = Integer.compare(one.get(i), other.get(i));
                if (order != 0) {
                    return order;
                }
            }
            return 0;
        };
    }

    /** One letter: values, or inputs by process, and perhaps a mark. */
    private static final class Letter {
        final Set<Integer> values;
        final Map<Integer, Integer> vector;
        final boolean mark;

        Letter(Set<Integer> values, Map<Integer, Integer> vector, boolean mark) {
            this.values = new TreeSet<>(values);
            this.vector = new TreeMap<>(vector);
            this.mark = mark;
        }
    }

    private static final class Process {
        final TreeSet<Integer> values = new TreeSet<>();
        final Map<Integer, Integer> vector = new TreeMap<>();
        boolean mark;
        boolean up = true;
        int heard;
        int decision = CrashRounds.NONE;
        int decisionRound;

        void decide(int value, int round) {
            if (decisionRound == 0) {
                decision = value;
                decisionRound = round;
            }
        }
    }

    private static final class Model {
        int algorithm;
        int n;
        int t;
        int k;
        int less;
        int rounds;
        int made;
        int letters;
        int[] inputs;
        final TreeMap<Integer, int[]> crashes = new TreeMap<>();
        final List<Process> all = new ArrayList<>();

        Model() {
            start(0, 4, 1, 1, 0);
        }

        Model copy() {
            Model other = new Model();
            other.start(algorithm, n, t, k, less);
            other.inputs = inputs.clone();
            other.crashes.putAll(crashes);
            other.again();
            return other;
        }

        List<Integer> place(int d) {
            List<Integer> place = new ArrayList<>();
            place.add(crashes.size());
            int bits = 0;
            for (int p : crashes.keySet()) {
                bits += 1 << p;
            }
            place.add(bits);
            for (int[] crash : crashes.values()) {
                place.add(crash[0]);
                place.add(crash[1]);
            }
            int number = 0;
            for (int p = n - 1; p >= 0; p--) {
                number = number * d + inputs[p];
            }
            place.add(number);
            return place;
        }

        int told(int which, int j) {
            List<Integer> crashing = new ArrayList<>(crashes.keySet());
            boolean crash = j >= 0 && j < crashing.size();
            switch (which) {
                case 0: return breach();
                case 1: return crashing.size();
                case 2: return crash ? crashing.get(j) : CrashRounds.BAD;
                case 3: return crash ? crashes.get(crashing.get(j))[0] : CrashRounds.BAD;
                case 4: return crash ? crashes.get(crashing.get(j))[1] : CrashRounds.BAD;
                case 5: return none(j) ? CrashRounds.BAD : inputs[j];
                default: return CrashRounds.BAD;
            }
        }

        boolean none(int p) {
            return p < 0 || p >= n;
        }

        int start(int algorithm, int n, int t, int k, int less) {
            if (algorithm < 0 || algorithm > 6 || n < 2 || n > 8 || t < 0 || t > 3 || t >= n
                    || k < 1 || k > 3 || less < 0 || less > 2) {
                return CrashRounds.BAD;
            }
            this.algorithm = algorithm;
            this.n = n;
            this.t = t;
            this.k = k;
            this.less = less;
            rounds = (algorithm == 3 ? t / k : t) + 1;
            for (int i = 0; i < less && rounds > 1; i++) {
                rounds--;
            }
            inputs = new int[n];
            crashes.clear();
            again();
            return rounds;
        }

        int again() {
            int before = made;
            made = 0;
            letters = 0;
            all.clear();
            for (int p = 0; p < n; p++) {
                Process process = new Process();
                process.heard = n;
                process.values.add(inputs[p]);
                process.vector.put(p, inputs[p]);
                all.add(process);
            }
            return before;
        }

        int input(int p, int value) {
            if (none(p) || value < 0 || value > 15 || made > 0) {
                return CrashRounds.BAD;
            }
            int before = inputs[p];
            inputs[p] = value;
            again();
            return before;
        }

        int crash(int p, int round, int reach) {
            if (none(p) || round < 1 || round > 20 || reach < 0 || reach >= 1 << n || made > 0) {
                return CrashRounds.BAD;
            }
            if (!crashes.containsKey(p) && crashes.size() == t) {
                return CrashRounds.BAD;
            }
            crashes.put(p, new int[] {round, reach & ~(1 << p)});
            return crashes.size();
        }

        int spare(int p) {
            if (none(p) || made > 0) {
                return CrashRounds.BAD;
            }
            return crashes.remove(p) == null ? 0 : 1;
        }

        int run() {
            while (made < rounds) {
                step();
            }
            return rounds;
        }

        int step() {
            if (made == rounds) {
                return CrashRounds.BAD;
            }
            made++;
            List<Map<Integer, Letter>> boxes = new ArrayList<>();
            for (int p = 0; p < n; p++) {
                boxes.add(new HashMap<>());
            }
            for (int p = 0; p < n; p++) {
                send(p, boxes);
            }
            for (int p = 0; p < n; p++) {
                if (crashes.containsKey(p) && crashes.get(p)[0] == made) {
                    all.get(p).up = false;
                }
            }
            for (int p = 0; p < n; p++) {
                if (all.get(p).up) {
                    receive(p, boxes.get(p));
                }
            }
            return made;
        }

        void send(int p, List<Map<Integer, Letter>> boxes) {
            Process process = all.get(p);
            if (!process.up || (algorithm == 6 && p != (made - 1) % n)) {
                return;
            }
            Letter letter = new Letter(process.values, process.vector, process.mark);
            boolean crashesNow = crashes.containsKey(p) && crashes.get(p)[0] == made;
            boxes.get(p).put(p, letter);
            for (int q = 0; q < n; q++) {
                if (q != p && (!crashesNow || (crashes.get(p)[1] >> q & 1) == 1)) {
                    boxes.get(q).put(p, letter);
                    letters++;
                }
            }
        }

        void receive(int p, Map<Integer, Letter> box) {
            Process process = all.get(p);
            boolean asMany = box.size() == process.heard;
            process.heard = box.size();
            if (algorithm == 6 && !box.isEmpty()) {
                process.values.clear();
            }
            boolean gotMark = false;
            for (Letter letter : box.values()) {
                process.values.addAll(letter.values);
                process.vector.putAll(letter.vector);
                gotMark |= letter.mark;
            }
            if (algorithm != 0) {
                process.values.retainAll(Set.of(process.values.first()));
            }
            int known = process.values.first();
            if (algorithm == 1 && asMany) {
                process.decide(known, made);
            }
            if (algorithm == 2) {
                if (box.get(p).mark) {
                    process.decide(box.get(p).values.iterator().next(), made);
                }
                process.mark |= asMany || gotMark;
            }
            if (made == rounds) {
                process.decide(lastDecision(process), made);
            }
        }

        int lastDecision(Process process) {
            if (algorithm == 4) {
                return process.vector.size();
            }
            if (algorithm == 5) {
                return process.vector.size() == n && !process.vector.containsValue(0) ? 1 : 0;
            }
            return process.values.first();
        }

        int decided(int p) {
            return none(p) ? CrashRounds.BAD : all.get(p).decision;
        }

        int decidedIn(int p) {
            return none(p) ? CrashRounds.BAD : all.get(p).decisionRound;
        }

        int knows(int p) {
            if (none(p)) {
                return CrashRounds.BAD;
            }
            Process process = all.get(p);
            if (algorithm == 0) {
                return bits(process.values);
            }
            return algorithm == 4 || algorithm == 5
                    ? bits(process.vector.keySet()) : process.values.first();
        }

        static int bits(Set<Integer> set) {
            int bits = 0;
            for (int member : set) {
                bits += 1 << member;
            }
            return bits;
        }

        int vector(int p, int q) {
            if (none(p) || none(q) || (algorithm != 4 && algorithm != 5)) {
                return CrashRounds.BAD;
            }
            return all.get(p).vector.getOrDefault(q, CrashRounds.NONE);
        }

        int heard(int p) {
            return none(p) ? CrashRounds.BAD : all.get(p).heard;
        }

        boolean sound(int p) {
            return !crashes.containsKey(p) || crashes.get(p)[0] > rounds;
        }

        int faults() {
            int faults = 0;
            for (int p = 0; p < n; p++) {
                faults += sound(p) ? 0 : 1;
            }
            return faults;
        }

        int bound() {
            return algorithm == 1 || algorithm == 2 ? Math.min(faults() + 2, rounds) : rounds;
        }

        int count(int which) {
            int up = 0;
            int marks = 0;
            for (int p = 0; p < n; p++) {
                up += all.get(p).up ? 1 << p : 0;
                marks += all.get(p).mark ? 1 << p : 0;
            }
            int[] counts = {n, t, rounds, made, letters, faults(), bound(), up, marks};
            return which < 0 || which >= counts.length ? CrashRounds.BAD : counts[which];
        }

        int breach() {
            if (made < rounds) {
                return CrashRounds.BAD;
            }
            if (disagree()) {
                return 1;
            }
            if (invalid()) {
                return 2;
            }
            for (int p = 0; p < n; p++) {
                int in = all.get(p).decisionRound;
                if (sound(p) && (in == 0 || in > bound())) {
                    return 3;
                }
            }
            return 0;
        }

        boolean disagree() {
            Set<Integer> decisions = new HashSet<>();
            Set<Map<Integer, Integer>> vectors = new HashSet<>();
            for (int p = 0; p < n; p++) {
                if (sound(p)) {
                    vectors.add(all.get(p).vector);
                }
                if ((sound(p) || algorithm == 2) && all.get(p).decisionRound > 0) {
                    decisions.add(all.get(p).decision);
                }
            }
            return algorithm == 4 ? vectors.size() > 1 : decisions.size() > (algorithm == 3 ? k : 1);
        }

        boolean invalid() {
            Set<Integer> values = new HashSet<>();
            for (int input : inputs) {
                values.add(input);
            }
            for (int p = 0; p < n; p++) {
                Process process = all.get(p);
                for (int q = 0; q < n; q++) {
                    if (algorithm == 4 && sound(p) && sound(q) && !process.vector.containsKey(q)) {
                        return true;
                    }
                }
                if (algorithm == 4 || process.decisionRound == 0) {
                    continue;
                }
                if (algorithm == 5) {
                    boolean zero = values.contains(0);
                    if (process.decision == 1 ? zero : !zero && faults() == 0) {
                        return true;
                    }
                } else if (!values.contains(process.decision)) {
                    return true;
                }
            }
            return false;
        }
    }
}
