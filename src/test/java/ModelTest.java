import java.util.Arrays;
import java.util.Random;

/** Runs of calls by fixed seeds, each answer compared with that of PlainModel. */
public final class ModelTest {
    private static final int[] FAR = {Integer.MIN_VALUE, -10, -1, 7, 13, 1001, 1000001, Integer.MAX_VALUE};
    private final Due due = new Due("ModelTest");
    private Random random;
    private MetAgents real;
    private PlainModel plain;
    private int states;

    public static void main(String[] args) {
        ModelTest test = new ModelTest();
        int runs = args.length > 0 ? Integer.parseInt(args[0]) : 400;
        int from = args.length > 1 ? Integer.parseInt(args[1]) : 0;
        for (int i = from; i < from + runs && !test.due.failed(); i++) {
            test.oneRun(i);
        }
        test.due.end();
    }

    private void oneRun(int number) {
        random = new Random(number);
        real = new MetAgents();
        plain = new PlainModel();
        states = 2 + random.nextInt(5);
        int calls = 40 + random.nextInt(120);
        boolean told = random.nextBoolean();
        for (int i = 0; i < calls; i++) {
            oneCall("run " + number + ", call " + i + ": ", told);
        }
    }

    /** A number that is mostly within what a call takes. */
    private int pick(int from, int to) {
        int kind = random.nextInt(40);
        if (kind == 0) {
            return FAR[random.nextInt(FAR.length)];
        }
        return kind == 1 ? to + 1 : kind == 2 ? from - 1 : from + random.nextInt(to - from + 1);
    }

    private int state() {
        return pick(0, states - 1);
    }

    private void oneCall(String at, boolean told) {
        int kind = random.nextInt(100);
        if (kind < 25) {
            aboutRules(at, random.nextInt(told ? 6 : 5));
        } else if (kind < 50) {
            aboutAgents(at, random.nextInt(8));
        } else if (kind < 80) {
            aboutConfigurations(at, random.nextInt(7));
        } else {
            aboutSums(at, random.nextInt(6));
        }
    }

    private void aboutRules(String at, int kind) {
        int a = state(), b = state(), c = state(), d = state();
        switch (kind) {
            case 0: case 1:
                due.is(at + "rule " + a + b + c + d, real.rule(a, b, c, d), plain.rule(a, b, c, d));
                break;
            case 2:
                due.is(at + "unrule " + a + b, real.unrule(a, b), plain.unrule(a, b));
                break;
            case 3:
                int preset = random.nextInt(4) == 0 ? pick(0, 2) : 7;
                due.is(at + "preset " + preset, real.preset(preset), plain.preset(preset));
                break;
            case 4:
                int k = pick(0, 11), what = pick(0, 3);
                due.is(at + "ofRule " + k + " " + what, real.ofRule(k, what), plain.ofRule(k, what));
                break;
            default:
                int v = pick(0, random.nextInt(3));
                due.is(at + "tells " + a + " " + v, real.tells(a, v), plain.tells(a, v));
        }
    }

    private int[] howMany() {
        int[] in = new int[6];
        int n = pick(2, 6);
        for (int i = 0; i < n && i < 8; i++) {
            in[random.nextInt(states)]++;
        }
        if (random.nextInt(10) == 0) {
            in[random.nextInt(6)] = pick(0, 6);
        }
        return in;
    }

    private void aboutAgents(String at, int kind) {
        int a = pick(0, 5), b = pick(0, 5);
        switch (kind) {
            case 0:
                int[] in = howMany();
                due.is(at + "agents " + Arrays.toString(in),
                    real.agents(in[0], in[1], in[2], in[3], in[4], in[5]), plain.agents(in));
                break;
            case 1:
                due.is(at + "agent " + a, real.agent(a), plain.agent(a));
                break;
            case 2: case 3:
                due.is(at + "meet " + a + " " + b, real.meet(a, b), plain.meet(a, b));
                break;
            case 4:
                int v = random.nextInt();
                due.is(at + "seed " + v, real.seed(v), plain.seed(v));
                break;
            case 5:
                int m = pick(1, random.nextBoolean() ? 10 : 1000);
                due.is(at + "run " + m, real.run(m), plain.run(m));
                break;
            case 6:
                due.is(at + "waits " + a + " " + b, real.waits(a, b), plain.waits(a, b));
                break;
            default:
                int above = random.nextBoolean() ? pick(0, 30) : pick(0, 1000000), what = pick(0, 1);
                due.is(at + "unfair " + above + " " + what, real.unfair(above, what), plain.unfair(above, what));
        }
    }

    private void aboutConfigurations(String at, int kind) {
        switch (kind) {
            case 0:
                int s = pick(0, 5);
                due.is(at + "in " + s, real.in(s), plain.in(s));
                break;
            case 1:
                int what = pick(0, 3);
                due.is(at + "reached " + what, real.reached(what), plain.reached(what));
                break;
            case 2:
                due.is(at + "answer", real.answer(), plain.answer());
                break;
            case 3:
                due.is(at + "decided", real.decided(), plain.decided());
                break;
            case 4:
                due.is(at + "soonest", real.soonest(), plain.soonest());
                break;
            case 5:
                due.is(at + "longest", real.longest(), plain.longest());
                break;
            default:
                int m = pick(0, 12), which = pick(0, 1);
                due.is(at + "odds " + m + " " + which, real.odds(m, which), plain.odds(m, which));
        }
    }

    private void aboutSums(String at, int kind) {
        int s = pick(0, 5);
        switch (kind) {
            case 0:
                int v = random.nextBoolean() ? pick(-1, 1) : pick(-9, 9);
                due.is(at + "weight " + s + " " + v, real.weight(s, v), plain.weight(s, v));
                break;
            case 1:
                due.is(at + "sum", real.sum(), plain.sum());
                break;
            case 2:
                due.is(at + "breaks", real.breaks(), plain.breaks());
                break;
            case 3:
                due.is(at + "keepers", real.keepers(), plain.keepers());
                break;
            case 4:
                int n = pick(2, 6), kindOfTruth = pick(0, 2), k = pick(1, 6);
                due.is(at + "wrong " + n + " " + kindOfTruth + " " + k,
                    real.wrong(n, kindOfTruth, k), plain.wrong(n, kindOfTruth, k));
                break;
            default:
                int what = pick(0, 3);
                due.is(at + "many " + what, real.many(what), plain.many(what));
        }
    }
}
