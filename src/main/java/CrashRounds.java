import java.util.Arrays;

/**
 * A bench for agreement in rounds: processes send letters to all others in each round, some of
 * them crash and reach only a part of these in their last one; seven ways to agree, each with what
 * it promises, run by any plan of crashes, and searched for the first run that breaks a promise.
 *
 * <p>Sets of processes and of values are held as bits of an int.
 */
public final class CrashRounds {
    public static final int BAD = -1, NONE = -2, BIG = -3;

    private static final int FLOOD = 0;
    private static final int EARLY = 1;
    private static final int UNIFORM = 2;
    private static final int LEAST = 3;
    private static final int VECTOR = 4;
    private static final int COMMIT = 5;
    private static final int ROTOR = 6;

    private static final int FEWEST_PROCESSES = 2;
    private static final int MOST_PROCESSES = 8;
    private static final int MOST_CRASHES = 3;
    private static final int MOST_K = 3;
    private static final int MOST_LESS = 2;
    private static final int GREATEST_INPUT = 15;
    private static final int LAST_CRASH_ROUND = 20;
    private static final int MOST_SEARCHED_VALUES = 3;
    private static final long MOST_SEARCHED_RUNS = 60000;

    private final Rules rules;
    private final Run current;
    private final Search searcher;

    public CrashRounds() {
        rules = new Rules();
        current = new Run(rules);
        searcher = new Search(rules);
        setUp(FLOOD, 4, 1, 1, 0);
    }

    public int start(int algorithm, int n, int t, int k, int less) {
        if (!areRules(algorithm, n, t, k, less)) {
            return BAD;
        }
        setUp(algorithm, n, t, k, less);
        return rules.rounds;
    }

    public int input(int p, int value) {
        if (!isOpenTo(p) || !isWithin(value, 0, GREATEST_INPUT)) {
            return BAD;
        }
        int before = current.inputs.of[p];
        current.inputs.of[p] = value;
        return before;
    }

    public int crash(int p, int round, int reach) {
        if (!isOpenTo(p) || !isWithin(round, 1, LAST_CRASH_ROUND)
                || !isWithin(reach, 0, rules.everyone())) {
            return BAD;
        }
        Plan plan = current.plan;
        if (!has(plan.crashing, p) && plan.size() >= rules.mostCrashes) {
            return BAD;
        }
        plan.put(p, round, reach);
        return plan.size();
    }

    public int spare(int p) {
        if (!isOpenTo(p)) {
            return BAD;
        }
        Plan plan = current.plan;
        boolean crashed = has(plan.crashing, p);
        plan.crashing &= ~(1 << p);
        return crashed ? 1 : 0;
    }

    public int step() {
        if (current.isOver()) {
            return BAD;
        }
        current.makeRound();
        return current.made;
    }

    public int run() {
        current.makeAllRounds();
        return rules.rounds;
    }

    public int again() {
        int made = current.made;
        current.begin();
        return made;
    }

    public int decided(int p) {
        if (!rules.isProcess(p)) {
            return BAD;
        }
        return current.decidedIn[p] == 0 ? NONE : current.decisionFrom(current.decidedFrom[p]);
    }

    public int decidedIn(int p) {
        return rules.isProcess(p) ? current.decidedIn[p] : BAD;
    }

    public int knows(int p) {
        if (!rules.isProcess(p)) {
            return BAD;
        }
        int known = current.known[p];
        switch (rules.algorithm) {
            case FLOOD:
                return current.inputs.asBits(known);
            case VECTOR:
            case COMMIT:
                return known;
            default:
                return current.inputs.least(known);
        }
    }

    public int vector(int p, int q) {
        boolean holdsVectors = rules.algorithm == VECTOR || rules.algorithm == COMMIT;
        if (!holdsVectors || !rules.isProcess(p) || !rules.isProcess(q)) {
            return BAD;
        }
        return has(current.known[p], q) ? current.inputs.of[q] : NONE;
    }

    public int heard(int p) {
        return rules.isProcess(p) ? current.heardFrom[p] : BAD;
    }

    public int count(int which) {
        switch (which) {
            case 0:
                return rules.processes;
            case 1:
                return rules.mostCrashes;
            case 2:
                return rules.rounds;
            case 3:
                return current.made;
            case 4:
                return current.letters;
            case 5:
                return rules.faultsBeside(current.sound());
            case 6:
                return rules.boundFor(current.sound());
            case 7:
                return current.up;
            case 8:
                return current.marked;
            default:
                return BAD;
        }
    }

    public int breach() {
        return current.isOver() ? current.firstBreach() : BAD;
    }

    public int search(int d) {
        if (!isWithin(d, 1, MOST_SEARCHED_VALUES)) {
            return BAD;
        }
        if (searcher.planCount() * searcher.inputCount(d) > MOST_SEARCHED_RUNS) {
            return BIG;
        }
        return searcher.seek(d);
    }

    public int found(int which, int j) {
        if (searcher.breachFound == 0) {
            return BAD;
        }
        switch (which) {
            case 0:
                return searcher.breachFound;
            case 1:
                return searcher.tried.plan.size();
            case 2:
            case 3:
            case 4:
                return foundCrash(which, j);
            case 5:
                return rules.isProcess(j) ? searcher.tried.inputs.of[j] : BAD;
            default:
                return BAD;
        }
    }

    public int replay() {
        if (searcher.breachFound == 0) {
            return BAD;
        }
        current.inputs.copy(searcher.tried.inputs);
        current.plan.copy(searcher.tried.plan);
        current.begin();
        return searcher.breachFound;
    }

    private int foundCrash(int which, int j) {
        Plan plan = searcher.tried.plan;
        int p = plan.crashingAt(j);
        if (!rules.isProcess(p)) {
            return BAD;
        }
        if (which == 2) {
            return p;
        }
        return which == 3 ? plan.rounds[p] : plan.reaches[p];
    }

    private void setUp(int algorithm, int n, int t, int k, int less) {
        rules.put(algorithm, n, t, k, less);
        current.inputs.clear();
        current.plan.clear();
        current.begin();
        searcher.breachFound = 0;
    }

    /** Inputs and plan of a process may be changed only before the first round. */
    private boolean isOpenTo(int p) {
        return rules.isProcess(p) && current.made == 0;
    }

    private static boolean areRules(int algorithm, int n, int t, int k, int less) {
        return isWithin(algorithm, FLOOD, ROTOR)
                && isWithin(n, FEWEST_PROCESSES, MOST_PROCESSES)
                && isWithin(t, 0, Math.min(MOST_CRASHES, n - 1))
                && isWithin(k, 1, MOST_K)
                && isWithin(less, 0, MOST_LESS);
    }

    private static boolean isWithin(int number, int least, int greatest) {
        return number >= least && number <= greatest;
    }

    private static boolean has(int set, int member) {
        return (set >> member & 1) != 0;
    }

    /** What start says; the current run and the searched ones share it. */
    private static final class Rules {
        int algorithm;
        int processes;
        int mostCrashes;
        int mostDecisions;
        int rounds;

        void put(int newAlgorithm, int n, int t, int k, int less) {
            algorithm = newAlgorithm;
            processes = n;
            mostCrashes = t;
            mostDecisions = newAlgorithm == LEAST ? k : 1;
            int crashesToOutlast = newAlgorithm == LEAST && k > 0 ? t / k : t;
            rounds = Math.max(1, crashesToOutlast + 1 - less);
        }

        boolean isProcess(int p) {
            return p >= 0 && p < processes;
        }

        int everyone() {
            return (1 << processes) - 1;
        }

        int faultsBeside(int sound) {
            return processes - Integer.bitCount(sound);
        }

        int boundFor(int sound) {
            boolean mayEndEarly = algorithm == EARLY || algorithm == UNIFORM;
            return mayEndEarly ? Math.min(faultsBeside(sound) + 2, rounds) : rounds;
        }
    }

    private static final class Inputs {
        final int[] of = new int[MOST_PROCESSES];

        void clear() {
            Arrays.fill(of, 0);
        }

        void copy(Inputs other) {
            System.arraycopy(other.of, 0, of, 0, MOST_PROCESSES);
        }

        int least(int owners) {
            int least = GREATEST_INPUT;
            for (int p = 0; p < MOST_PROCESSES; p++) {
                if (has(owners, p) && of[p] < least) {
                    least = of[p];
                }
            }
            return least;
        }

        int asBits(int owners) {
            int values = 0;
            for (int p = 0; p < MOST_PROCESSES; p++) {
                if (has(owners, p)) {
                    values |= 1 << of[p];
                }
            }
            return values;
        }

        /** To the next inputs in a search's order; behind the last ones, to the first again. */
        void advance(int processes, int values) {
            for (int p = 0; p < processes && p < MOST_PROCESSES; p++) {
                if (of[p] + 1 < values) {
                    of[p]++;
                    return;
                }
                of[p] = 0;
            }
        }
    }

    private static final class Plan {
        int crashing;
        final int[] rounds = new int[MOST_PROCESSES];
        final int[] reaches = new int[MOST_PROCESSES];

        void clear() {
            crashAtOnce(0);
        }

        void copy(Plan other) {
            crashing = other.crashing;
            System.arraycopy(other.rounds, 0, rounds, 0, MOST_PROCESSES);
            System.arraycopy(other.reaches, 0, reaches, 0, MOST_PROCESSES);
        }

        void put(int p, int round, int reach) {
            crashing |= 1 << p;
            rounds[p] = round;
            reaches[p] = reach & ~(1 << p);
        }

        int size() {
            return Integer.bitCount(crashing);
        }

        int crashingIn(int first, int last) {
            int set = 0;
            for (int p = 0; p < MOST_PROCESSES; p++) {
                if (has(crashing, p) && isWithin(rounds[p], first, last)) {
                    set |= 1 << p;
                }
            }
            return set;
        }

        /** The j-th crashing process from the least on, or NONE. */
        int crashingAt(int j) {
            int passed = 0;
            for (int p = 0; p < MOST_PROCESSES; p++) {
                if (has(crashing, p)) {
                    if (passed == j) {
                        return p;
                    }
                    passed++;
                }
            }
            return NONE;
        }

        /** To the next plan in a search's order, which is one of more crashes behind the last. */
        void advance(int everyone, int lastRound) {
            for (int p = MOST_PROCESSES - 1; p >= 0; p--) {
                if (has(crashing, p) && advanceOne(p, everyone, lastRound)) {
                    return;
                }
            }
            crashAtOnce(nextCrashing(everyone));
        }

        /** False if the process was at its last round and reach; it is at its first ones then. */
        private boolean advanceOne(int p, int everyone, int lastRound) {
            int own = 1 << p;
            // With its own bit set, adding 1 carries over that bit, so it is never counted.
            int reach = ((reaches[p] | own) + 1) & ~own;
            if (reach <= everyone) {
                reaches[p] = reach;
                return true;
            }
            reaches[p] = 0;
            if (rounds[p] < lastRound) {
                rounds[p]++;
                return true;
            }
            rounds[p] = 1;
            return false;
        }

        private int nextCrashing(int everyone) {
            int size = size();
            for (int set = crashing + 1; set <= everyone; set++) {
                if (Integer.bitCount(set) == size) {
                    return set;
                }
            }
            return (1 << (size + 1)) - 1;
        }

        private void crashAtOnce(int set) {
            crashing = set;
            Arrays.fill(rounds, 1);
            Arrays.fill(reaches, 0);
        }
    }

    /**
     * How far the inputs have come. Which processes' inputs one knows does not depend on the
     * values of these, so only that is held, and values are looked up when they are asked for: a
     * search makes the rounds of a plan once for all inputs.
     */
    private static final class Run {
        final Rules rules;
        final Inputs inputs = new Inputs();
        final Plan plan = new Plan();

        int made;
        int letters;
        int up;
        int marked;
        /** Whose inputs a process knows; in ROTOR, whose input its value is. */
        final int[] known = new int[MOST_PROCESSES];
        final int[] heardFrom = new int[MOST_PROCESSES];
        final int[] decidedIn = new int[MOST_PROCESSES];
        /** What of this stood in that from which a process decided. */
        final int[] decidedFrom = new int[MOST_PROCESSES];

        /** The letters of one round, which must not change while that round's are read. */
        private final int[] letter = new int[MOST_PROCESSES];
        private final int[] readers = new int[MOST_PROCESSES];
        private int markedLetters;

        Run(Rules sharedRules) {
            rules = sharedRules;
        }

        void begin() {
            made = 0;
            letters = 0;
            up = rules.everyone();
            marked = 0;
            for (int p = 0; p < MOST_PROCESSES; p++) {
                known[p] = 1 << p;
                heardFrom[p] = rules.processes;
                decidedIn[p] = 0;
                decidedFrom[p] = 0;
            }
        }

        boolean isOver() {
            return made >= rules.rounds;
        }

        void makeAllRounds() {
            for (int round = made; round < rules.rounds; round++) {
                makeRound();
            }
        }

        void makeRound() {
            made++;
            int crashingNow = plan.crashingIn(made, made);
            sendLetters(crashingNow);
            up &= ~crashingNow;
            for (int p = 0; p < rules.processes; p++) {
                if (has(up, p)) {
                    readLetters(p);
                }
            }
        }

        private void sendLetters(int crashingNow) {
            markedLetters = marked;
            for (int p = 0; p < rules.processes; p++) {
                letter[p] = known[p];
                readers[p] = 0;
                if (has(up, p) && sendsNow(p)) {
                    int own = 1 << p;
                    int others = has(crashingNow, p) ? plan.reaches[p] : rules.everyone() & ~own;
                    letters += Integer.bitCount(others);
                    readers[p] = others | own;
                }
            }
        }

        private boolean sendsNow(int p) {
            // No modulo: there are at most T + 1 rounds, and T is below n.
            return rules.algorithm != ROTOR || p == made - 1;
        }

        private void readLetters(int p) {
            int senders = 0;
            int learned = 0;
            for (int q = 0; q < rules.processes; q++) {
                if (has(readers[q], p)) {
                    senders |= 1 << q;
                    learned |= letter[q];
                }
            }
            // A process that sends gets its own letter, so only in ROTOR may there be none.
            if (senders != 0) {
                known[p] = learned;
            }
            int before = heardFrom[p];
            heardFrom[p] = Integer.bitCount(senders);
            conclude(p, heardFrom[p] == before, senders);
        }

        private void conclude(int p, boolean heardAsMany, int senders) {
            switch (rules.algorithm) {
                case EARLY:
                    if (heardAsMany || isOver()) {
                        decide(p, known[p]);
                    }
                    break;
                case UNIFORM:
                    if (heardAsMany || (senders & markedLetters) != 0) {
                        marked |= 1 << p;
                    }
                    if (has(markedLetters, p)) {
                        decide(p, letter[p]);
                    } else if (isOver()) {
                        decide(p, known[p]);
                    }
                    break;
                default:
                    if (isOver()) {
                        decide(p, known[p]);
                    }
                    break;
            }
        }

        private void decide(int p, int from) {
            if (decidedIn[p] == 0) {
                decidedIn[p] = made;
                decidedFrom[p] = from;
            }
        }

        boolean allDecidedFromSame() {
            int deciders = 0;
            for (int p = 0; p < rules.processes; p++) {
                if (decidedIn[p] != 0) {
                    deciders |= 1 << p;
                }
            }
            return isSameFor(deciders, decidedFrom);
        }

        private boolean isSameFor(int who, int[] sets) {
            int last = 0;
            for (int p = 0; p < rules.processes && p < sets.length; p++) {
                if (has(who, p)) {
                    if (last != 0 && sets[p] != last) {
                        return false;
                    }
                    last = sets[p];
                }
            }
            return true;
        }

        int decisionFrom(int from) {
            switch (rules.algorithm) {
                case VECTOR:
                    return Integer.bitCount(from);
                case COMMIT:
                    return from == rules.everyone() && inputs.least(from) != 0 ? 1 : 0;
                default:
                    return inputs.least(from);
            }
        }

        int sound() {
            return rules.everyone() & ~plan.crashingIn(1, rules.rounds);
        }

        int firstBreach() {
            int sound = sound();
            int decisions = decisionsOf(rules.everyone());
            int toAgree = rules.algorithm == UNIFORM ? decisions : decisionsOf(sound);
            if (disagrees(sound, toAgree)) {
                return 1;
            }
            if (isUnfounded(sound, decisions)) {
                return 2;
            }
            return isLate(sound) ? 3 : 0;
        }

        private boolean disagrees(int sound, int decisions) {
            if (rules.algorithm == VECTOR) {
                return !isSameFor(sound, known);
            }
            return Integer.bitCount(decisions) > rules.mostDecisions;
        }

        /** The different values that these processes decided, as bits. */
        private int decisionsOf(int who) {
            int decisions = 0;
            int last = 0;
            for (int p = 0; p < rules.processes; p++) {
                // Whoever decided from the same inputs decided the same: this saves a look-up.
                if (has(who, p) && decidedIn[p] != 0 && decidedFrom[p] != last) {
                    last = decidedFrom[p];
                    decisions |= 1 << decisionFrom(last);
                }
            }
            return decisions;
        }

        private boolean isUnfounded(int sound, int decisions) {
            switch (rules.algorithm) {
                case VECTOR:
                    return missesSomeOf(sound);
                case COMMIT:
                    return commitsWrongly(sound, decisions);
                default:
                    return (decisions & ~inputs.asBits(rules.everyone())) != 0;
            }
        }

        private boolean commitsWrongly(int sound, int decisions) {
            if (inputs.least(rules.everyone()) == 0) {
                return has(decisions, 1);
            }
            return has(decisions, 0) && rules.faultsBeside(sound) == 0;
        }

        private boolean missesSomeOf(int sound) {
            for (int p = 0; p < rules.processes; p++) {
                if (has(sound, p) && (sound & ~known[p]) != 0) {
                    return true;
                }
            }
            return false;
        }

        private boolean isLate(int sound) {
            int bound = rules.boundFor(sound);
            for (int p = 0; p < rules.processes; p++) {
                if (has(sound, p) && (decidedIn[p] == 0 || decidedIn[p] > bound)) {
                    return true;
                }
            }
            return false;
        }
    }

    /** Plan and inputs of the run that was tried last are those that were found, if any were. */
    private static final class Search {
        final Rules rules;
        final Run tried;
        int breachFound;

        Search(Rules sharedRules) {
            rules = sharedRules;
            tried = new Run(sharedRules);
        }

        /** Below 10 to the power of 10; times the inputs it still is far from a long's end. */
        long planCount() {
            long waysToCrash = (long) rules.rounds << (rules.processes - 1);
            long choices = 1;
            long waysForAll = 1;
            long plans = 1;
            for (int size = 1; size <= rules.mostCrashes; size++) {
                choices = choices * (rules.processes - size + 1) / size;
                waysForAll *= waysToCrash;
                plans += choices * waysForAll;
            }
            return plans;
        }

        long inputCount(int values) {
            long count = 1;
            for (int p = 0; p < rules.processes; p++) {
                count *= values;
            }
            return count;
        }

        int seek(int values) {
            long plans = planCount();
            long allInputs = inputCount(values);
            tried.plan.clear();
            for (long plan = 0; plan < plans; plan++) {
                tried.begin();
                tried.makeAllRounds();
                tried.inputs.clear();
                // If all decided from the same, they agree whatever its values: one try tells.
                long inputs = tried.allDecidedFromSame() ? 1 : allInputs;
                for (long input = 0; input < inputs; input++) {
                    breachFound = tried.firstBreach();
                    if (breachFound != 0) {
                        return breachFound;
                    }
                    tried.inputs.advance(rules.processes, values);
                }
                tried.plan.advance(rules.everyone(), rules.rounds);
            }
            return 0;
        }
    }
}
