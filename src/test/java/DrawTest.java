import java.util.ArrayList;
import java.util.List;

/** DRAWS: each two that can be drawn, the seed's wrap-around, and long rows of them. */
public final class DrawTest {
    private static final Due due = new Due("DrawTest");
    private static final int FACTOR = 1103515245, MORE = 12345;

    public static void main(String[] args) {
        due.is("the factor backwards", FACTOR * backwards(), 1);
        for (int n = 2; n <= 6; n++) {
            List<int[]> twos = twosOf(n);
            for (int r = 0; r < twos.size(); r++) {
                // the least and the greatest upper bits that leave r, and those next to the sign's
                drawn(n, r, twos.get(r));
                drawn(n, r + (32767 - r) / twos.size() * twos.size(), twos.get(r));
                drawn(n, r + (32768 - r + twos.size() - 1) / twos.size() * twos.size(), twos.get(r));
                drawn(n, r + (65535 - r) / twos.size() * twos.size(), twos.get(r));
            }
            drawn(n, 0, twos.get(0));
            drawn(n, 32768, twos.get(32768 % twos.size()));
            drawn(n, 65535, twos.get(65535 % twos.size()));
            longRow(n, 1, 1000);
            longRow(n, Integer.MIN_VALUE, 37);
            longRow(n, Integer.MAX_VALUE, 37);
        }
        due.end();
    }

    /** By the first one, then by the second one: the r-th is the one that r stands for. */
    private static List<int[]> twosOf(int n) {
        List<int[]> twos = new ArrayList<>();
        for (int first = 0; first < n; first++) {
            for (int second = 0; second < n; second++) {
                if (first != second) {
                    twos.add(new int[] {first, second});
                }
            }
        }
        return twos;
    }

    private static int backwards() {
        int found = FACTOR;
        for (int i = 0; i < 5; i++) {
            found *= 2 - FACTOR * found;
        }
        return found;
    }

    private static void drawn(int n, int upper, int[] two) {
        for (int lower : new int[] {0, 1, 65535}) {
            int behind = upper << 16 | lower;
            int ahead = (behind - MORE) * backwards();
            MetAgents x = new MetAgents();
            x.agents(n, 0, 0, 0, 0, 0);
            x.rule(0, 0, 3, 4);
            x.seed(ahead);
            String what = n + " agents, upper bits " + upper + ": ";
            due.is(what + "a change", x.run(1), 1);
            due.is(what + "the first one", x.agent(two[0]), 3);
            due.is(what + "the second one", x.agent(two[1]), 4);
            due.is(what + "they just met", x.waits(two[0], two[1]), 0);
            due.is(what + "all others wait", x.unfair(0, 0), n * (n - 1) - 1);
            due.is(what + "the seed", x.seed(1), behind);
        }
    }

    /** Many draws at once are as many one by one, and as the same meetings by hand. */
    private static void longRow(int n, int seed, int m) {
        MetAgents atOnce = changing(n, seed);
        MetAgents byHand = changing(n, seed);
        List<int[]> twos = twosOf(n);
        int now = seed;
        int changes = 0;
        int hand = Math.min(m, 400);
        for (int i = 0; i < m; i++) {
            if (i == hand) {
                due.is(n + " agents, the first " + hand + " of " + m, changing(n, seed).run(hand), changes);
            }
            now = now * FACTOR + MORE;
            int[] two = twos.get((int) ((now & 0xFFFFFFFFL) / 65536 % twos.size()));
            changes += i < hand ? byHand.meet(two[0], two[1]) : 0;
        }
        int all = atOnce.run(m);
        if (m == hand) {
            due.is(n + " agents, changes of " + m, all, changes);
            for (int a = 0; a < n; a++) {
                due.is(n + " agents, agent " + a, atOnce.agent(a), byHand.agent(a));
            }
        }
        due.is(n + " agents, meetings", atOnce.many(2), m);
        due.is(n + " agents, changes", atOnce.many(3), all);
        due.is(n + " agents, the seed behind " + m, atOnce.seed(1), now);
        due.is("meetings by hand leave the seed", byHand.seed(1), seed);
        MetAgents oneByOne = changing(n, seed);
        int single = 0;
        for (int i = 0; i < hand; i++) {
            single += oneByOne.run(1);
        }
        due.is(n + " agents, one by one", single, changing(n, seed).run(hand));
    }

    private static MetAgents changing(int n, int seed) {
        MetAgents x = new MetAgents();
        x.preset(2);
        x.rule(3, 3, 1, 2);
        x.rule(0, 0, 1, 0);
        x.rule(1, 0, 4, 3);
        x.rule(4, 0, 1, 1);
        x.agents(n - 1, 1, 0, 0, 0, 0);
        x.seed(seed);
        return x;
    }
}
