import java.io.IOException;
import java.nio.file.Files;
import java.nio.file.Path;
import java.util.ArrayList;
import java.util.List;
import java.util.stream.Collectors;
import java.util.stream.Stream;

/**
 * The runs of calls under src/test/runs, each on a new object (README.md tells their form). Behind
 * each entry of them, once there has been a call that was refused or only asks, what later calls
 * answer is compared with that of an object that was told nothing but the calls that were taken and
 * may change something; not where that would be more than 512 calls.
 */
public final class RunsTest {
    private static final Due due = new Due("RunsTest");
    private static final List<String> LATER = later();
    private final String title;
    private final Talk talk = new Talk();
    private final List<String> told = new ArrayList<>();
    private final List<String> taken = new ArrayList<>();

    private RunsTest(String title) {
        this.title = title;
    }

    public static void main(String[] args) throws IOException {
        List<Path> files;
        try (Stream<Path> all = Files.list(Path.of(args[0]))) {
            files = all.filter(f -> f.toString().endsWith(".txt")).sorted().collect(Collectors.toList());
        }
        due.isTrue("there are runs", !files.isEmpty());
        for (Path file : files) {
            read(file.getFileName().toString(), Files.readAllLines(file));
        }
        due.end();
    }

    private static void read(String file, List<String> lines) {
        RunsTest run = null;
        for (String line : lines) {
            if (line.startsWith("## ")) {
                run = new RunsTest(file + ", " + line.substring(3));
            } else if (!line.isBlank() && !line.startsWith("#")) {
                for (String entry : line.split(" # ")[0].split(";")) {
                    run.entry(entry.strip());
                }
            }
        }
    }

    private void entry(String entry) {
        String[] sides = entry.split("\\s*=\\s*");
        String call = sides[0];
        String want = sides.length > 1 ? sides[1] : "";
        if (call.equals("rules")) {
            rules(want);
        } else if (call.equals("states")) {
            states(want);
        } else if (call.equals("reaches")) {
            ask("reached {0,1,2,3}", "{" + want.replace(' ', ',') + "}");
        } else if (call.startsWith("share ")) {
            ask(call.replace("share", "odds") + " {0,1}", "{" + want.replace('/', ',') + "}");
        } else {
            ask(call, want);
        }
        if (!taken.equals(told) && told.size() + LATER.size() <= Talk.MOST_CALLS) {
            compareLater();
        }
    }

    /** All rules from the oldest on, and none behind them. */
    private void rules(String want) {
        String[] all = want.isEmpty() ? new String[0] : want.split(" ");
        ask("many 0", "" + all.length);
        for (int k = 0; k < all.length; k++) {
            ask("ofRule " + k + " {0,1,2,3}", "{" + String.join(",", all[k].split("")) + "}");
        }
        ask("ofRule " + all.length + " 0", "UNKNOWN");
    }

    /** All agents' states, and no agents behind them. */
    private void states(String want) {
        ask("many 1", "" + want.length());
        for (int a = 0; a < want.length(); a++) {
            ask("agent " + a, want.substring(a, a + 1));
        }
        ask("agent " + want.length(), "UNKNOWN");
    }

    private void ask(String text, String want) {
        String[] times = text.split(" x ");
        List<String> calls = times.length > 1 ? repeated(times[1], Integer.parseInt(times[0])) : spread(text);
        List<String> answers = want.isEmpty() ? List.of() : spread(want);
        for (int i = 0; i < calls.size(); i++) {
            String call = calls.get(i);
            long got = talk.ask(call);
            if (!answers.isEmpty()) {
                due.is(title + ": call " + talk.calls() + ", " + call, got,
                    value(answers.get(answers.size() == 1 ? 0 : i)));
            }
            told.add(call);
            if (Talk.mayChange(call) && !Talk.isRefusal(call, got)) {
                taken.add(call);
            }
        }
    }

    private static List<String> repeated(String call, int times) {
        List<String> all = new ArrayList<>();
        for (int i = 0; i < times; i++) {
            all.add(call);
        }
        return all;
    }

    /** "in {0,1} {2,3}" stands for "in 0 2", "in 0 3", "in 1 2", "in 1 3". */
    private static List<String> spread(String text) {
        int from = text.indexOf('{');
        int to = text.indexOf('}');
        if (from < 0) {
            return List.of(text);
        }
        List<String> all = new ArrayList<>();
        for (String one : text.substring(from + 1, to).split(",")) {
            all.addAll(spread(text.substring(0, from) + one + text.substring(to + 1)));
        }
        return all;
    }

    private static long value(String word) {
        switch (word) {
            case "UNKNOWN":
                return -1;
            case "OUTSIDE":
                return -2;
            case "STATE":
                return -3;
            case "NONE":
                return -9;
            case "LOST":
                return Long.MIN_VALUE;
            case "LEAST": case "GREATEST":
                return Talk.number(word);
            default:
                return Long.parseLong(word);
        }
    }

    private static List<String> later() {
        List<String> all = new ArrayList<>();
        for (String text : new String[] {
            "many {0,1,2,3}", "ofRule {0,1,2,3,4,5,6,7,8,9,10,11} {0,1,2,3}", "agent {0,1,2,3,4,5}",
            "waits {0,1,2,3,4,5} {0,1,2,3,4,5}", "unfair {0,3} {0,1}", "in {0,1,2,3,4,5}",
            "reached {0,1,2,3}", "answer", "decided", "soonest", "longest", "odds 2 {0,1}", "sum",
            "breaks", "keepers", "wrong 3 {0,1,2} 2", "run 7", "many {2,3}", "agent {0,1,2,3,4,5}",
            "seed 5", "tells {0,1,2,3,4,5} 0", "weight {0,1,2,3,4,5} 0"}) {
            all.addAll(spread(text));
        }
        return all;
    }

    private void compareLater() {
        Talk one = new Talk();
        Talk other = new Talk();
        told.forEach(one::ask);
        taken.forEach(other::ask);
        for (String call : LATER) {
            due.is(title + ": behind " + told.get(told.size() - 1) + ", " + call, one.ask(call), other.ask(call));
        }
    }
}
