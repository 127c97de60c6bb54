import java.io.IOException;
import java.lang.reflect.Method;
import java.lang.reflect.Modifier;
import java.nio.file.Files;
import java.nio.file.Path;
import java.util.regex.Matcher;
import java.util.regex.Pattern;

/** README.md: each call of its example answers what stands behind it; each call of the class is told. */
public final class ReadmeTest {
    private static final Due due = new Due("ReadmeTest");

    public static void main(String[] args) throws IOException {
        String readme = Files.readString(Path.of(args[0]));
        example(readme);
        for (Method m : MetAgents.class.getDeclaredMethods()) {
            if (Modifier.isPublic(m.getModifiers())) {
                due.isTrue("a row for " + m.getName(), readme.contains("\n| `" + m.getName() + "("));
            }
        }
        due.end();
    }

    private static void example(String readme) {
        Matcher line = Pattern.compile("(?m)^x\\.(\\w+)\\(([^)]*)\\);\\s*// (-?\\d+)\\b").matcher(readme);
        Talk talk = new Talk();
        while (line.find()) {
            String call = (line.group(1) + " " + line.group(2).replace(",", "")).strip();
            due.is("the example: " + call, talk.ask(call), Long.parseLong(line.group(3)));
        }
        long told = readme.lines().filter(l -> l.startsWith("x.")).count();
        due.isTrue("the example has calls", told > 0);
        due.is("each of its calls has an answer", talk.calls(), told);
    }
}
