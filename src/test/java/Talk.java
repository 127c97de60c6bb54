/** One object of MetAgents, to which calls are told as texts, such as "rule 0 1 2 LEAST". */
final class Talk {
    /** Behind so many calls the document leaves the answers free. */
    static final int MOST_CALLS = 512;
    private final MetAgents x = new MetAgents();
    private int calls;

    int calls() {
        return calls;
    }

    static int number(String word) {
        switch (word) {
            case "LEAST":
                return Integer.MIN_VALUE;
            case "GREATEST":
                return Integer.MAX_VALUE;
            default:
                return Integer.parseInt(word);
        }
    }

    static boolean mayChange(String call) {
        switch (call.split(" ")[0]) {
            case "rule": case "unrule": case "preset": case "tells": case "agents":
            case "meet": case "seed": case "run": case "weight":
                return true;
            default:
                return false;
        }
    }

    static boolean isRefusal(String call, long answer) {
        return call.startsWith("odds ") ? answer == Long.MIN_VALUE
            : !call.startsWith("seed ") && answer >= -3 && answer <= -1;
    }

    long ask(String call) {
        String[] words = call.split(" ");
        int[] v = new int[words.length - 1];
        for (int i = 0; i < v.length; i++) {
            v[i] = number(words[i + 1]);
        }
        calls++;
        if (calls > MOST_CALLS) {
            throw new IllegalStateException("a test uses an object for more than 512 calls: " + call);
        }
        return v.length == 0 ? askAlone(words[0]) : v.length == 1 ? askOne(words[0], v[0])
            : v.length == 2 ? askTwo(words[0], v[0], v[1]) : askMore(words[0], v);
    }

    private long askAlone(String name) {
        switch (name) {
            case "answer":
                return x.answer();
            case "decided":
                return x.decided();
            case "soonest":
                return x.soonest();
            case "longest":
                return x.longest();
            case "sum":
                return x.sum();
            case "breaks":
                return x.breaks();
            case "keepers":
                return x.keepers();
            default:
                throw noSuch(name);
        }
    }

    private long askOne(String name, int a) {
        switch (name) {
            case "preset":
                return x.preset(a);
            case "agent":
                return x.agent(a);
            case "seed":
                return x.seed(a);
            case "run":
                return x.run(a);
            case "in":
                return x.in(a);
            case "reached":
                return x.reached(a);
            case "many":
                return x.many(a);
            default:
                throw noSuch(name);
        }
    }

    private long askTwo(String name, int a, int b) {
        switch (name) {
            case "unrule":
                return x.unrule(a, b);
            case "ofRule":
                return x.ofRule(a, b);
            case "tells":
                return x.tells(a, b);
            case "meet":
                return x.meet(a, b);
            case "waits":
                return x.waits(a, b);
            case "unfair":
                return x.unfair(a, b);
            case "odds":
                return x.odds(a, b);
            case "weight":
                return x.weight(a, b);
            default:
                throw noSuch(name);
        }
    }

    private long askMore(String name, int[] v) {
        if (name.equals("rule") && v.length == 4) {
            return x.rule(v[0], v[1], v[2], v[3]);
        }
        if (name.equals("agents") && v.length == 6) {
            return x.agents(v[0], v[1], v[2], v[3], v[4], v[5]);
        }
        if (name.equals("wrong") && v.length == 3) {
            return x.wrong(v[0], v[1], v[2]);
        }
        throw noSuch(name);
    }

    private static IllegalArgumentException noSuch(String name) {
        return new IllegalArgumentException("no such call: " + name);
    }
}
