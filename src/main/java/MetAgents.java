import java.util.Arrays;

/** Agents that meet by chance, by rules for two states; DOC.md tells what each call answers. */
public final class MetAgents {
    public static final int UNKNOWN = -1, OUTSIDE = -2, STATE = -3, NONE = -9;
    public static final long LOST = Long.MIN_VALUE;

    private static final int STATES = 6;
    private static final int MOST_RULES = 12;
    private static final int MOST_AGENTS = 6;
    private static final int MOST_DRAWN = 1000;
    private static final int MOST_WAIT = 1000000;
    private static final int MOST_ROW = 12;
    private static final int MOST_TOLD = 2;
    private static final int MOST_WEIGHT = 9;
    private static final int MOST_KEPT = 2;
    private static final int WEIGHT_SHIFT = 10;
    private static final int SUM_SHIFT = 1000;

    private static final int[] LEADER = {0, 0, 0, 1};
    private static final int[] MAJORITY = {
        1, 0, 3, 2, 0, 1, 2, 3, 1, 2, 1, 3, 2, 1, 3, 1, 0, 3, 0, 2, 3, 0, 2, 0};
    private static final int[] HEAPS = {
        1, 1, 2, 0, 1, 2, 3, 0, 2, 1, 3, 0, 2, 2, 3, 0, 3, 0, 3, 3, 0, 3, 3, 3};

    private final RuleBook book = new RuleBook();
    private final Crowd crowd = new Crowd();
    private final Reach reach = new Reach();
    private final Chances chances = new Chances();
    private final int[] told = new int[STATES];
    private final int[] weights = new int[STATES];
    private final int[] trial = new int[STATES];

    public MetAgents() {
    }

    // ---- 1 rules, agents, meetings

    public int rule(int p, int q, int x, int y) {
        if (!isState(p) || !isState(q) || !isState(x) || !isState(y)) {
            return UNKNOWN;
        }
        book.put(Two.of(p, q), Two.of(x, y));
        return book.count;
    }

    public int unrule(int p, int q) {
        if (!isState(p) || !isState(q)) {
            return UNKNOWN;
        }
        int two = Two.of(p, q);
        if (book.outcome(two) < 0) {
            return STATE;
        }
        book.take(two);
        return book.count;
    }

    public int preset(int kind) {
        if (kind < 0 || kind > 2) {
            return OUTSIDE;
        }
        int[] parts = kind == 0 ? LEADER : kind == 1 ? MAJORITY : HEAPS;
        book.clear();
        for (int i = 0; i + 3 < parts.length; i += 4) {
            book.put(Two.of(parts[i], parts[i + 1]), Two.of(parts[i + 2], parts[i + 3]));
        }
        return book.count;
    }

    public int ofRule(int k, int what) {
        if (k < 0 || k >= book.count) {
            return UNKNOWN;
        }
        if (what < 0 || what > 3) {
            return OUTSIDE;
        }
        int two = what < 2 ? book.twoAt(k) : book.outcomeAt(k);
        return what % 2 == 0 ? Two.first(two) : Two.second(two);
    }

    public int tells(int state, int v) {
        if (!isState(state)) {
            return UNKNOWN;
        }
        if (v < 0 || v > MOST_TOLD) {
            return OUTSIDE;
        }
        int before = told[state];
        told[state] = v;
        return before;
    }

    public int agents(int in0, int in1, int in2, int in3, int in4, int in5) {
        if (in0 < 0 || in1 < 0 || in2 < 0 || in3 < 0 || in4 < 0 || in5 < 0) {
            return OUTSIDE;
        }
        // six ints together may be more than an int holds
        long together = (long) in0 + in1 + in2 + in3 + in4 + in5;
        if (together < 2 || together > MOST_AGENTS) {
            return OUTSIDE;
        }
        crowd.leave();
        crowd.come(0, in0);
        crowd.come(1, in1);
        crowd.come(2, in2);
        crowd.come(3, in3);
        crowd.come(4, in4);
        crowd.come(5, in5);
        return crowd.size;
    }

    public int agent(int a) {
        return crowd.has(a) ? crowd.stateOf(a) : UNKNOWN;
    }

    public int meet(int first, int second) {
        if (!crowd.has(first) || !crowd.has(second)) {
            return UNKNOWN;
        }
        if (first == second) {
            return STATE;
        }
        return crowd.bringTogether(book, first, second);
    }

    public int seed(int v) {
        int before = crowd.drawn;
        crowd.drawn = v;
        return before;
    }

    public int run(int m) {
        if (m < 1 || m > MOST_DRAWN) {
            return OUTSIDE;
        }
        if (crowd.size == 0) {
            return STATE;
        }
        int changes = 0;
        for (int i = 0; i < m; i++) {
            changes += crowd.bringDrawn(book);
        }
        return changes;
    }

    public int waits(int first, int second) {
        if (!crowd.has(first) || !crowd.has(second)) {
            return UNKNOWN;
        }
        if (first == second) {
            return STATE;
        }
        return crowd.waitOf(first, second);
    }

    public int unfair(int v, int what) {
        if (v < 0 || v > MOST_WAIT || what < 0 || what > 1) {
            return OUTSIDE;
        }
        if (crowd.size == 0) {
            return STATE;
        }
        return what == 0 ? crowd.howManyAbove(v) : crowd.firstAbove(v);
    }

    // ---- 2 configurations

    public int in(int state) {
        return isState(state) ? Configuration.countIn(crowd.configuration(), state) : UNKNOWN;
    }

    public int reached(int what) {
        if (what < 0 || what > 3) {
            return OUTSIDE;
        }
        if (crowd.size == 0) {
            return STATE;
        }
        explorePresent();
        switch (what) {
            case 0:
                return reach.count;
            case 1:
                return reach.howManyAgreed();
            case 2:
                return reach.howManyStable();
            default:
                return reach.howManySilent();
        }
    }

    public int answer() {
        if (crowd.size == 0) {
            return STATE;
        }
        explorePresent();
        return reach.answerAt(0);
    }

    public int decided() {
        if (crowd.size == 0) {
            return STATE;
        }
        explorePresent();
        return reach.verdict();
    }

    public int soonest() {
        if (crowd.size == 0) {
            return STATE;
        }
        explorePresent();
        return reach.fewestTillStable();
    }

    public int longest() {
        if (crowd.size == 0) {
            return STATE;
        }
        explorePresent();
        return reach.mostChanges();
    }

    public long odds(int m, int which) {
        if (m < 0 || m > MOST_ROW || which < 0 || which > 1 || crowd.size == 0) {
            return LOST;
        }
        explorePresent();
        int twos = crowd.size * (crowd.size - 1);
        long upper = chances.stableRows(reach, book, m, twos);
        long lower = 1;
        for (int i = 0; i < m; i++) {
            lower *= twos;
        }
        long common = commonDivisor(upper, lower);
        if (common < 1) {
            return LOST;
        }
        return which == 0 ? upper / common : lower / common;
    }

    // ---- 3 sums, truths

    public int weight(int state, int v) {
        if (!isState(state)) {
            return UNKNOWN;
        }
        if (v < -MOST_WEIGHT || v > MOST_WEIGHT) {
            return OUTSIDE;
        }
        int before = weights[state];
        weights[state] = v;
        return before + WEIGHT_SHIFT;
    }

    public int sum() {
        if (crowd.size == 0) {
            return STATE;
        }
        int together = SUM_SHIFT;
        for (int a = 0; a < crowd.size; a++) {
            together += weights[crowd.stateOf(a)];
        }
        return together;
    }

    public int breaks() {
        for (int k = 0; k < book.count; k++) {
            if (!isKept(book, k, weights)) {
                return k;
            }
        }
        return NONE;
    }

    public int keepers() {
        int named = 0;
        for (int k = 0; k < book.count; k++) {
            named |= book.statesNamedAt(k);
        }
        return countKept(book, trial, 0, named);
    }

    public int wrong(int n, int kind, int k) {
        if (n < 2 || n > MOST_AGENTS || kind < 0 || kind > 2 || k < 1 || k > 6) {
            return OUTSIDE;
        }
        for (int a = 0; a <= n; a++) {
            reach.explore(book, Configuration.one(0) * (n - a) + Configuration.one(1) * a);
            reach.judge(told);
            if (reach.verdict() != truth(n, a, kind, k)) {
                return a;
            }
        }
        return NONE;
    }

    public int many(int what) {
        switch (what) {
            case 0:
                return book.count;
            case 1:
                return crowd.size;
            case 2:
                return crowd.meetings;
            case 3:
                return crowd.changes;
            default:
                return OUTSIDE;
        }
    }

    private static boolean isState(int state) {
        return state >= 0 && state < STATES;
    }

    private void explorePresent() {
        reach.explore(book, crowd.configuration());
        reach.judge(told);
    }

    private static long commonDivisor(long one, long other) {
        long a = one;
        long b = other;
        // Euclid needs fewer than 100 steps for two longs
        for (int i = 0; i < 200 && b != 0; i++) {
            long rest = a % b;
            a = b;
            b = rest;
        }
        return a;
    }

    private static boolean isKept(RuleBook book, int k, int[] row) {
        int before = book.twoAt(k);
        int behind = book.outcomeAt(k);
        return row[Two.first(before)] + row[Two.second(before)]
            == row[Two.first(behind)] + row[Two.second(behind)];
    }

    /** How many ways there are to go on with a row from a state on; those below it stand. */
    private static int countKept(RuleBook book, int[] row, int state, int named) {
        if (state >= STATES) {
            return 1;
        }
        if ((named >> state & 1) == 0) {
            // no rule looks at this state, so each of its weights does as well
            return (2 * MOST_KEPT + 1) * countKept(book, row, state + 1, named);
        }
        int kept = 0;
        for (int w = -MOST_KEPT; w <= MOST_KEPT; w++) {
            row[state] = w;
            if (isKeptSoFar(book, row, state)) {
                kept += countKept(book, row, state + 1, named);
            }
        }
        return kept;
    }

    /** Looks only at the rules whose last state has just got its weight. */
    private static boolean isKeptSoFar(RuleBook book, int[] row, int state) {
        for (int k = 0; k < book.count; k++) {
            if (book.statesNamedAt(k) >> state == 1 && !isKept(book, k, row)) {
                return false;
            }
        }
        return true;
    }

    private static int truth(int n, int a, int kind, int k) {
        if (kind == 0) {
            return a > n - a ? 1 : a < n - a ? 0 : 2;
        }
        if (kind == 1) {
            return a >= k ? 1 : 0;
        }
        return k > 0 && a % k == 0 ? 1 : 0;
    }

    /** Two states in their order, as one number 0 .. 35. */
    private static final class Two {
        static final int ALL = STATES * STATES;

        static int of(int first, int second) {
            return first * STATES + second;
        }

        static int first(int two) {
            return two / STATES;
        }

        static int second(int two) {
            return two % STATES;
        }
    }

    /** How many agents there are in each state, as one number: three bits for a state. */
    private static final class Configuration {
        static final int BITS = 3;
        static final int ALL = 462;
        private static final int ROW = 11;
        // row i, column b: in how many ways i + 1 are chosen of b
        private static final int[] CHOICES = {
            0, 1, 2, 3, 4, 5, 6, 7, 8, 9, 10,
            0, 0, 1, 3, 6, 10, 15, 21, 28, 36, 45,
            0, 0, 0, 1, 4, 10, 20, 35, 56, 84, 120,
            0, 0, 0, 0, 1, 5, 15, 35, 70, 126, 210,
            0, 0, 0, 0, 0, 1, 6, 21, 56, 126, 252};

        static int one(int state) {
            return 1 << BITS * state;
        }

        static int countIn(int configuration, int state) {
            return configuration >> BITS * state & 7;
        }

        /** In how many ways a first and a second agent in just these states can be met. */
        static int meetingsOf(int configuration, int two) {
            int first = Two.first(two);
            int second = Two.second(two);
            int firsts = countIn(configuration, first);
            return first == second ? firsts * (firsts - 1) : firsts * countIn(configuration, second);
        }

        static int behind(int configuration, int two, int outcome) {
            return configuration - one(Two.first(two)) - one(Two.second(two))
                + one(Two.first(outcome)) + one(Two.second(outcome));
        }

        /** A number 0 .. 461, another one for each configuration of as many agents. */
        static int rank(int configuration) {
            int rank = 0;
            int upToHere = 0;
            for (int state = 0; state + 1 < STATES; state++) {
                upToHere += countIn(configuration, state);
                if (upToHere > MOST_AGENTS) {
                    return -1;
                }
                rank += CHOICES[state * ROW + upToHere + state];
            }
            return rank;
        }

        /** What all agents' states tell, or NONE. */
        static int agreement(int configuration, int[] told) {
            int common = NONE;
            for (int state = 0; state < STATES; state++) {
                if (countIn(configuration, state) > 0) {
                    if (common != NONE && common != told[state]) {
                        return NONE;
                    }
                    common = told[state];
                }
            }
            return common;
        }
    }

    /** The rules, from the oldest on; a two has at most one outcome. */
    private static final class RuleBook {
        private final int[] twos = new int[MOST_RULES];
        private final int[] outcomes = new int[Two.ALL];
        int count;

        RuleBook() {
            Arrays.fill(outcomes, -1);
        }

        void clear() {
            Arrays.fill(outcomes, -1);
            count = 0;
        }

        void put(int two, int outcome) {
            if (outcomes[two] >= 0) {
                take(two);
            } else if (count >= MOST_RULES) {
                take(twos[0]);
            }
            twos[count] = two;
            outcomes[two] = outcome;
            count++;
        }

        void take(int two) {
            int left = 0;
            for (int k = 0; k < count; k++) {
                if (twos[k] != two) {
                    twos[left] = twos[k];
                    left++;
                }
            }
            count = left;
            outcomes[two] = -1;
        }

        /** What becomes of two states that meet; -1, if there is no rule for them. */
        int outcome(int two) {
            return outcomes[two];
        }

        int twoAt(int k) {
            return twos[k];
        }

        int outcomeAt(int k) {
            return outcomes[twos[k]];
        }

        /** A bit for each state that stands in a rule. */
        int statesNamedAt(int k) {
            int before = twoAt(k);
            int behind = outcomeAt(k);
            return 1 << Two.first(before) | 1 << Two.second(before)
                | 1 << Two.first(behind) | 1 << Two.second(behind);
        }
    }

    /** The agents, what has happened among them, and the seed by which they are drawn. */
    private static final class Crowd {
        private final int[] states = new int[MOST_AGENTS];
        // how many meetings there had been when a first and a second one last met
        private final int[] lastMet = new int[MOST_AGENTS * MOST_AGENTS];
        int size;
        int meetings;
        int changes;
        int drawn = 1;

        void leave() {
            Arrays.fill(lastMet, 0);
            size = 0;
            meetings = 0;
            changes = 0;
        }

        void come(int state, int howMany) {
            for (int i = 0; i < howMany && size < MOST_AGENTS; i++) {
                states[size] = state;
                size++;
            }
        }

        boolean has(int a) {
            return a >= 0 && a < size;
        }

        int stateOf(int a) {
            return states[a];
        }

        int configuration() {
            int together = 0;
            for (int a = 0; a < size; a++) {
                together += Configuration.one(states[a]);
            }
            return together;
        }

        /** 1, if the meeting is a change, else 0. */
        int bringTogether(RuleBook book, int first, int second) {
            meetings++;
            lastMet[first * MOST_AGENTS + second] = meetings;
            int two = Two.of(states[first], states[second]);
            int outcome = book.outcome(two);
            if (outcome < 0 || outcome == two) {
                return 0;
            }
            states[first] = Two.first(outcome);
            states[second] = Two.second(outcome);
            changes++;
            return 1;
        }

        int bringDrawn(RuleBook book) {
            int others = size - 1;
            if (others < 1) {
                return 0;
            }
            drawn = 1103515245 * drawn + 12345;
            int r = (drawn >>> 16) % (size * others);
            int first = r / others;
            int second = r % others;
            return bringTogether(book, first, second >= first ? second + 1 : second);
        }

        int waitOf(int first, int second) {
            return meetings - lastMet[first * MOST_AGENTS + second];
        }

        private boolean isAbove(int first, int second, int v) {
            return first != second && waitOf(first, second) > v;
        }

        int howManyAbove(int v) {
            int howMany = 0;
            for (int first = 0; first < size; first++) {
                for (int second = 0; second < size; second++) {
                    if (isAbove(first, second, v)) {
                        howMany++;
                    }
                }
            }
            return howMany;
        }

        int firstAbove(int v) {
            for (int first = 0; first < size; first++) {
                for (int second = 0; second < size; second++) {
                    if (isAbove(first, second, v)) {
                        return 10 * first + second;
                    }
                }
            }
            return NONE;
        }
    }

    /**
     * All configurations that are reached from one, the nearest first: that one is at place 0.
     * Its rows are made once and used for each call again, so that a call makes no objects.
     */
    private static final class Reach {
        private final int[] placeOfRank = new int[Configuration.ALL];
        private final int[] configurations = new int[Configuration.ALL];
        private final int[] nearness = new int[Configuration.ALL];
        // at place times MOST_RULES and k: the place behind the k-th rule; -1: no change by it
        private final int[] leads = new int[Configuration.ALL * MOST_RULES];
        private final int[] agreements = new int[Configuration.ALL];
        private final int[] answers = new int[Configuration.ALL];
        private final boolean[] hopes = new boolean[Configuration.ALL];
        private final int[] open = new int[Configuration.ALL];
        private final int[] most = new int[Configuration.ALL];
        private final int[] ready = new int[Configuration.ALL];
        private int rules;
        int count;

        void explore(RuleBook book, int start) {
            Arrays.fill(placeOfRank, -1);
            rules = book.count;
            count = 0;
            place(start, 0);
            for (int at = 0; at < count && at < Configuration.ALL; at++) {
                for (int k = 0; k < rules; k++) {
                    leads[at * MOST_RULES + k] = follow(at, book.twoAt(k), book.outcomeAt(k));
                }
            }
        }

        private int follow(int at, int two, int outcome) {
            int from = configurations[at];
            if (two == outcome || Configuration.meetingsOf(from, two) == 0) {
                return -1;
            }
            return place(Configuration.behind(from, two, outcome), nearness[at] + 1);
        }

        private int place(int configuration, int near) {
            int rank = Configuration.rank(configuration);
            if (rank < 0 || rank >= Configuration.ALL) {
                return -1;
            }
            if (placeOfRank[rank] < 0 && count < Configuration.ALL) {
                placeOfRank[rank] = count;
                configurations[count] = configuration;
                nearness[count] = near;
                count++;
            }
            return placeOfRank[rank];
        }

        int configurationAt(int at) {
            return configurations[at];
        }

        int leadAt(int at, int k) {
            return leads[at * MOST_RULES + k];
        }

        int answerAt(int at) {
            return answers[at];
        }

        /** Takes each agreement for an answer, then away from all that lead to another one. */
        void judge(int[] told) {
            for (int at = 0; at < count; at++) {
                agreements[at] = Configuration.agreement(configurations[at], told);
                answers[at] = agreements[at];
            }
            boolean again = true;
            for (int i = 0; again && i < Configuration.ALL; i++) {
                again = takeAnswersAway();
            }
        }

        // from the last place on, as most configurations lead to later places
        private boolean takeAnswersAway() {
            boolean any = false;
            for (int at = count - 1; at >= 0; at--) {
                if (answers[at] != NONE && leadsToOtherAnswer(at)) {
                    answers[at] = NONE;
                    any = true;
                }
            }
            return any;
        }

        private boolean leadsToOtherAnswer(int at) {
            for (int k = 0; k < rules; k++) {
                int to = leadAt(at, k);
                if (to >= 0 && answers[to] != answers[at]) {
                    return true;
                }
            }
            return false;
        }

        int howManyAgreed() {
            int howMany = 0;
            for (int at = 0; at < count; at++) {
                if (agreements[at] != NONE) {
                    howMany++;
                }
            }
            return howMany;
        }

        int howManyStable() {
            int howMany = 0;
            for (int at = 0; at < count; at++) {
                if (answers[at] != NONE) {
                    howMany++;
                }
            }
            return howMany;
        }

        int howManySilent() {
            int howMany = 0;
            for (int at = 0; at < count; at++) {
                if (isSilent(at)) {
                    howMany++;
                }
            }
            return howMany;
        }

        private boolean isSilent(int at) {
            for (int k = 0; k < rules; k++) {
                int to = leadAt(at, k);
                if (to >= 0 && to != at) {
                    return false;
                }
            }
            return true;
        }

        /** What is decided at place 0; NONE: nothing is. */
        int verdict() {
            int only = onlyAnswer();
            return only != NONE && allHope() ? only : NONE;
        }

        /** Two answers rule each other out: from a stable one no other answer is reached. */
        private int onlyAnswer() {
            int only = NONE;
            for (int at = 0; at < count; at++) {
                if (answers[at] != NONE) {
                    if (only != NONE && only != answers[at]) {
                        return NONE;
                    }
                    only = answers[at];
                }
            }
            return only;
        }

        /** Whether a stable one is reached from each. */
        private boolean allHope() {
            for (int at = 0; at < count; at++) {
                hopes[at] = answers[at] != NONE;
            }
            boolean again = true;
            for (int i = 0; again && i < Configuration.ALL; i++) {
                again = spreadHope();
            }
            for (int at = 0; at < count; at++) {
                if (!hopes[at]) {
                    return false;
                }
            }
            return true;
        }

        private boolean spreadHope() {
            boolean any = false;
            for (int at = count - 1; at >= 0; at--) {
                if (!hopes[at] && leadsToHope(at)) {
                    hopes[at] = true;
                    any = true;
                }
            }
            return any;
        }

        private boolean leadsToHope(int at) {
            for (int k = 0; k < rules; k++) {
                int to = leadAt(at, k);
                if (to >= 0 && hopes[to]) {
                    return true;
                }
            }
            return false;
        }

        int fewestTillStable() {
            for (int at = 0; at < count; at++) {
                if (answers[at] != NONE) {
                    return nearness[at];
                }
            }
            return NONE;
        }

        /** Goes to a place when all that lead to it are done; on a round of changes none is. */
        int mostChanges() {
            countOpen();
            int found = 0;
            if (open[0] == 0) {
                ready[0] = 0;
                found = 1;
            }
            int farthest = 0;
            for (int done = 0; done < found && done < Configuration.ALL; done++) {
                farthest = Math.max(farthest, most[ready[done]]);
                found = leave(ready[done], found);
            }
            return found < count ? NONE : farthest;
        }

        private void countOpen() {
            Arrays.fill(open, 0);
            Arrays.fill(most, 0);
            for (int at = 0; at < count; at++) {
                for (int k = 0; k < rules; k++) {
                    int to = leadAt(at, k);
                    if (to >= 0) {
                        open[to]++;
                    }
                }
            }
        }

        private int leave(int at, int found) {
            int now = found;
            for (int k = 0; k < rules; k++) {
                int to = leadAt(at, k);
                if (to >= 0) {
                    most[to] = Math.max(most[to], most[at] + 1);
                    open[to]--;
                    if (open[to] == 0 && now < Configuration.ALL) {
                        ready[now] = to;
                        now++;
                    }
                }
            }
            return now;
        }
    }

    /** In how many rows of meetings each place of a reach is come to. */
    private static final class Chances {
        private final long[] rows = new long[Configuration.ALL];
        private final long[] longer = new long[Configuration.ALL];

        /** Of all rows of m meetings, how many end in a stable configuration. */
        long stableRows(Reach reach, RuleBook book, int m, int twos) {
            Arrays.fill(rows, 0);
            rows[0] = 1;
            for (int i = 0; i < m; i++) {
                Arrays.fill(longer, 0);
                for (int at = 0; at < reach.count; at++) {
                    goOn(reach, book, at, twos);
                }
                System.arraycopy(longer, 0, rows, 0, rows.length);
            }
            long stable = 0;
            for (int at = 0; at < reach.count; at++) {
                if (reach.answerAt(at) != NONE) {
                    stable += rows[at];
                }
            }
            return stable;
        }

        private void goOn(Reach reach, RuleBook book, int at, int twos) {
            int staying = twos;
            for (int k = 0; k < book.count; k++) {
                int to = reach.leadAt(at, k);
                if (to >= 0) {
                    int ways = Configuration.meetingsOf(reach.configurationAt(at), book.twoAt(k));
                    longer[to] += rows[at] * ways;
                    staying -= ways;
                }
            }
            longer[at] += rows[at] * staying;
        }
    }
}
