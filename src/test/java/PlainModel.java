import java.math.BigInteger;
import java.util.ArrayList;
import java.util.Arrays;
import java.util.HashMap;
import java.util.HashSet;
import java.util.List;
import java.util.Map;
import java.util.Set;

/**
 * The document read word by word, slowly and over single agents, to be compared with MetAgents.
 * A configuration is the sorted text of all agents' states.
 */
final class PlainModel {
    private static final int UNKNOWN = -1, OUTSIDE = -2, STATE = -3, NONE = -9;
    private final List<int[]> rules = new ArrayList<>();
    private final int[] told = new int[6];
    private final int[] weights = new int[6];
    private List<Integer> agents = new ArrayList<>();
    private List<int[]> met = new ArrayList<>();
    private int changes;
    private long seed = 1;

    private static boolean within(int v, int from, int to) {
        return from <= v && v <= to;
    }

    private static boolean state(int s) {
        return within(s, 0, 5);
    }

    private boolean known(int a) {
        return within(a, 0, agents.size() - 1);
    }

    private int[] find(int p, int q) {
        for (int[] r : rules) {
            if (r[0] == p && r[1] == q) {
                return r;
            }
        }
        return null;
    }

    int rule(int p, int q, int x, int y) {
        if (!state(p) || !state(q) || !state(x) || !state(y)) {
            return UNKNOWN;
        }
        rules.remove(find(p, q));
        if (rules.size() == 12) {
            rules.remove(0);
        }
        rules.add(new int[] {p, q, x, y});
        return rules.size();
    }

    int unrule(int p, int q) {
        if (!state(p) || !state(q)) {
            return UNKNOWN;
        }
        return rules.remove(find(p, q)) ? rules.size() : STATE;
    }

    int preset(int kind) {
        String[] all = {"0001", "1032 0123 1213 2131 0302 3020", "1120 1230 2130 2230 3033 0333"};
        if (!within(kind, 0, 2)) {
            return OUTSIDE;
        }
        rules.clear();
        for (String one : all[kind].split(" ")) {
            rules.add(one.chars().map(c -> c - '0').toArray());
        }
        return rules.size();
    }

    int ofRule(int k, int what) {
        if (!within(k, 0, rules.size() - 1)) {
            return UNKNOWN;
        }
        return within(what, 0, 3) ? rules.get(k)[what] : OUTSIDE;
    }

    int tells(int s, int v) {
        if (!state(s)) {
            return UNKNOWN;
        }
        if (!within(v, 0, 2)) {
            return OUTSIDE;
        }
        int was = told[s];
        told[s] = v;
        return was;
    }

    int agents(int... in) {
        List<Integer> coming = new ArrayList<>();
        for (int s = 0; s < 6; s++) {
            if (in[s] < 0 || in[s] > 6) {
                return OUTSIDE;
            }
            for (int i = 0; i < in[s]; i++) {
                coming.add(s);
            }
        }
        if (!within(coming.size(), 2, 6)) {
            return OUTSIDE;
        }
        agents = coming;
        met = new ArrayList<>();
        changes = 0;
        return agents.size();
    }

    int agent(int a) {
        return known(a) ? agents.get(a) : UNKNOWN;
    }

    int meet(int first, int second) {
        if (!known(first) || !known(second)) {
            return UNKNOWN;
        }
        if (first == second) {
            return STATE;
        }
        met.add(new int[] {first, second});
        List<Integer> behind = meeting(agents, first, second);
        int change = behind.equals(agents) ? 0 : 1;
        agents = behind;
        changes += change;
        return change;
    }

    private List<Integer> meeting(List<Integer> states, int first, int second) {
        List<Integer> behind = new ArrayList<>(states);
        int[] r = find(states.get(first), states.get(second));
        if (r != null) {
            behind.set(first, r[2]);
            behind.set(second, r[3]);
        }
        return behind;
    }

    int seed(int v) {
        int was = (int) seed;
        seed = v & 0xFFFFFFFFL;
        return was;
    }

    int run(int m) {
        if (!within(m, 1, 1000)) {
            return OUTSIDE;
        }
        int n = agents.size();
        if (n == 0) {
            return STATE;
        }
        int count = 0;
        for (int i = 0; i < m; i++) {
            seed = BigInteger.valueOf(seed).multiply(BigInteger.valueOf(1103515245))
                .add(BigInteger.valueOf(12345)).mod(BigInteger.ONE.shiftLeft(32)).longValue();
            int r = (int) (seed / 65536 % (n * (n - 1)));
            int first = r / (n - 1);
            int second = r % (n - 1);
            count += meet(first, second >= first ? second + 1 : second);
        }
        return count;
    }

    int waits(int first, int second) {
        if (!known(first) || !known(second)) {
            return UNKNOWN;
        }
        return first == second ? STATE : since(first, second);
    }

    private int since(int first, int second) {
        int count = 0;
        for (int i = met.size() - 1; i >= 0; i--) {
            if (met.get(i)[0] == first && met.get(i)[1] == second) {
                return count;
            }
            count++;
        }
        return count;
    }

    int unfair(int v, int what) {
        if (!within(v, 0, 1000000) || !within(what, 0, 1)) {
            return OUTSIDE;
        }
        if (agents.isEmpty()) {
            return STATE;
        }
        List<Integer> above = new ArrayList<>();
        for (int f = 0; f < agents.size(); f++) {
            for (int s = 0; s < agents.size(); s++) {
                if (f != s && since(f, s) > v) {
                    above.add(10 * f + s);
                }
            }
        }
        return what == 0 ? above.size() : above.isEmpty() ? NONE : above.get(0);
    }

    int in(int s) {
        if (!state(s)) {
            return UNKNOWN;
        }
        return (int) agents.stream().filter(a -> a == s).count();
    }

    // ---- configurations

    private static String sorted(List<Integer> states) {
        int[] all = states.stream().mapToInt(i -> i).toArray();
        Arrays.sort(all);
        StringBuilder text = new StringBuilder();
        for (int s : all) {
            text.append(s);
        }
        return text.toString();
    }

    private static List<Integer> states(String configuration) {
        List<Integer> all = new ArrayList<>();
        for (char c : configuration.toCharArray()) {
            all.add(c - '0');
        }
        return all;
    }

    private final Map<String, Set<String>> ledTo = new HashMap<>();
    private final Map<String, Set<String>> reached = new HashMap<>();
    private final Map<String, Integer> answers = new HashMap<>();

    private void forget() {
        ledTo.clear();
        reached.clear();
        answers.clear();
        share.clear();
    }

    private Set<String> leads(String c) {
        Set<String> known = ledTo.get(c);
        if (known != null) {
            return known;
        }
        Set<String> to = new HashSet<>();
        List<Integer> before = states(c);
        for (int f = 0; f < before.size(); f++) {
            for (int s = 0; s < before.size(); s++) {
                if (f != s) {
                    List<Integer> behind = meeting(before, f, s);
                    if (!behind.equals(before)) {
                        to.add(sorted(behind));
                    }
                }
            }
        }
        ledTo.put(c, to);
        return to;
    }

    private Set<String> reachedFrom(String c) {
        Set<String> known = reached.get(c);
        if (known != null) {
            return known;
        }
        Set<String> all = new HashSet<>();
        List<String> open = new ArrayList<>(List.of(c));
        while (!open.isEmpty()) {
            String now = open.remove(open.size() - 1);
            if (all.add(now)) {
                open.addAll(leads(now));
            }
        }
        reached.put(c, all);
        return all;
    }

    private Set<Integer> toldIn(String c) {
        Set<Integer> all = new HashSet<>();
        for (int s : states(c)) {
            all.add(told[s]);
        }
        return all;
    }

    private boolean agreed(String c) {
        return toldIn(c).size() == 1;
    }

    private int answerOf(String c) {
        Integer known = answers.get(c);
        if (known != null) {
            return known;
        }
        Set<Integer> all = new HashSet<>();
        for (String other : reachedFrom(c)) {
            all.addAll(toldIn(other));
        }
        int answer = all.size() == 1 ? all.iterator().next() : NONE;
        answers.put(c, answer);
        return answer;
    }

    private boolean silent(String c) {
        for (String to : leads(c)) {
            if (!to.equals(c)) {
                return false;
            }
        }
        return true;
    }

    private int decidedFrom(String c) {
        for (int v = 0; v <= 2; v++) {
            boolean all = true;
            for (String from : reachedFrom(c)) {
                boolean some = false;
                for (String to : reachedFrom(from)) {
                    some = some || answerOf(to) == v;
                }
                all = all && some;
            }
            if (all) {
                return v;
            }
        }
        return NONE;
    }

    int reached(int what) {
        if (!within(what, 0, 3)) {
            return OUTSIDE;
        }
        if (agents.isEmpty()) {
            return STATE;
        }
        forget();
        int count = 0;
        for (String c : reachedFrom(sorted(agents))) {
            boolean counts = what == 0 || what == 1 && agreed(c)
                || what == 2 && answerOf(c) != NONE || what == 3 && silent(c);
            count += counts ? 1 : 0;
        }
        return count;
    }

    int answer() {
        forget();
        return agents.isEmpty() ? STATE : answerOf(sorted(agents));
    }

    int decided() {
        forget();
        return agents.isEmpty() ? STATE : decidedFrom(sorted(agents));
    }

    /** All configurations that are made by just so many changes. */
    private Set<String> behindOneMore(Set<String> now) {
        Set<String> next = new HashSet<>();
        for (String c : now) {
            next.addAll(leads(c));
        }
        return next;
    }

    int soonest() {
        if (agents.isEmpty()) {
            return STATE;
        }
        forget();
        Set<String> now = Set.of(sorted(agents));
        for (int i = 0; i <= 500; i++) {
            for (String c : now) {
                if (answerOf(c) != NONE) {
                    return i;
                }
            }
            now = behindOneMore(now);
        }
        return NONE;
    }

    int longest() {
        if (agents.isEmpty()) {
            return STATE;
        }
        forget();
        Set<String> now = Set.of(sorted(agents));
        for (int i = 0; i <= 500; i++) {
            now = behindOneMore(now);
            if (now.isEmpty()) {
                return i;
            }
        }
        return NONE;
    }

    private final Map<String, BigInteger> share = new HashMap<>();

    private BigInteger stableRows(String c, int m) {
        if (m == 0) {
            return answerOf(c) == NONE ? BigInteger.ZERO : BigInteger.ONE;
        }
        BigInteger known = share.get(c + "/" + m);
        if (known != null) {
            return known;
        }
        BigInteger count = BigInteger.ZERO;
        List<Integer> before = states(c);
        for (int f = 0; f < before.size(); f++) {
            for (int s = 0; s < before.size(); s++) {
                if (f != s) {
                    count = count.add(stableRows(sorted(meeting(before, f, s)), m - 1));
                }
            }
        }
        share.put(c + "/" + m, count);
        return count;
    }

    long odds(int m, int which) {
        if (!within(m, 0, 12) || !within(which, 0, 1) || agents.isEmpty()) {
            return Long.MIN_VALUE;
        }
        forget();
        int n = agents.size();
        BigInteger upper = stableRows(sorted(agents), m);
        BigInteger lower = BigInteger.valueOf(n * (n - 1)).pow(m);
        BigInteger common = upper.gcd(lower);
        return (which == 0 ? upper : lower).divide(common).longValueExact();
    }

    // ---- sums, truths

    int weight(int s, int v) {
        if (!state(s)) {
            return UNKNOWN;
        }
        if (!within(v, -9, 9)) {
            return OUTSIDE;
        }
        int was = weights[s];
        weights[s] = v;
        return was + 10;
    }

    int sum() {
        return agents.isEmpty() ? STATE : 1000 + agents.stream().mapToInt(s -> weights[s]).sum();
    }

    private static boolean keeps(int[] r, int[] w) {
        return w[r[0]] + w[r[1]] == w[r[2]] + w[r[3]];
    }

    int breaks() {
        for (int k = 0; k < rules.size(); k++) {
            if (!keeps(rules.get(k), weights)) {
                return k;
            }
        }
        return NONE;
    }

    int keepers() {
        int count = 0;
        for (int i = 0; i < 15625; i++) {
            int[] w = new int[6];
            for (int s = 0, left = i; s < 6; s++, left /= 5) {
                w[s] = left % 5 - 2;
            }
            count += rules.stream().allMatch(r -> keeps(r, w)) ? 1 : 0;
        }
        return count;
    }

    int wrong(int n, int kind, int k) {
        if (!within(n, 2, 6) || !within(kind, 0, 2) || !within(k, 1, 6)) {
            return OUTSIDE;
        }
        forget();
        for (int a = 0; a <= n; a++) {
            int most = Integer.compare(2 * a, n);
            int truth = kind == 0 ? (most > 0 ? 1 : most < 0 ? 0 : 2)
                : (kind == 1 ? a >= k : a % k == 0) ? 1 : 0;
            if (decidedFrom("0".repeat(n - a) + "1".repeat(a)) != truth) {
                return a;
            }
        }
        return NONE;
    }

    int many(int what) {
        if (!within(what, 0, 3)) {
            return OUTSIDE;
        }
        return what == 0 ? rules.size() : what == 1 ? agents.size() : what == 2 ? met.size() : changes;
    }
}
