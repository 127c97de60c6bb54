import java.io.IOException;
import java.lang.reflect.Field;
import java.lang.reflect.Method;
import java.lang.reflect.Modifier;
import java.nio.file.Files;
import java.nio.file.Path;
import java.util.Map;
import java.util.Set;
import java.util.TreeMap;
import java.util.TreeSet;
import java.util.regex.Matcher;
import java.util.regex.Pattern;

/** The class has the document's face and no more, and its text keeps to what LANGUAGE.md leaves. */
public final class FaceTest {
    private static final Due due = new Due("FaceTest");
    private static final Set<String> METHODS = Set.of(
        "int rule(int,int,int,int)", "int unrule(int,int)", "int preset(int)", "int ofRule(int,int)",
        "int tells(int,int)", "int agents(int,int,int,int,int,int)", "int agent(int)",
        "int meet(int,int)", "int seed(int)", "int run(int)", "int waits(int,int)",
        "int unfair(int,int)", "int in(int)", "int reached(int)", "int answer()", "int decided()",
        "int soonest()", "int longest()", "long odds(int,int)", "int weight(int,int)", "int sum()",
        "int breaks()", "int keepers()", "int wrong(int,int,int)", "int many(int)");
    private static final Set<String> CONSTANTS = Set.of("UNKNOWN", "OUTSIDE", "STATE", "NONE", "LOST");

    public static void main(String[] args) throws IOException {
        methods();
        fields();
        classes();
        String source = Files.readString(Path.of(args[0]));
        String code = source.replaceAll("(?s)/\\*.*?\\*/", " ").replaceAll("//[^\n]*", " ");
        text(code);
        lengthsAndCalls(code);
        due.end();
    }

    private static String told(Method m) {
        StringBuilder text = new StringBuilder(m.getReturnType().getSimpleName() + " " + m.getName() + "(");
        for (Class<?> c : m.getParameterTypes()) {
            text.append(text.charAt(text.length() - 1) == '(' ? "" : ",").append(c.getSimpleName());
        }
        return text.append(")").toString();
    }

    private static void methods() {
        Set<String> open = new TreeSet<>();
        Set<String> names = new TreeSet<>();
        for (Method m : MetAgents.class.getDeclaredMethods()) {
            due.isTrue("no name twice: " + m.getName(), names.add(m.getName()));
            if (!Modifier.isPrivate(m.getModifiers())) {
                due.isTrue("public: " + m.getName(), Modifier.isPublic(m.getModifiers()));
                open.add(told(m));
            }
        }
        due.isTrue("the document's methods: " + open, open.equals(METHODS));
        due.is("constructors", MetAgents.class.getDeclaredConstructors().length, 1);
        due.is("public constructors", MetAgents.class.getConstructors().length, 1);
        due.isTrue("final", Modifier.isFinal(MetAgents.class.getModifiers()));
    }

    private static void fields() {
        Set<String> open = new TreeSet<>();
        for (Field f : MetAgents.class.getDeclaredFields()) {
            if (!Modifier.isPrivate(f.getModifiers())) {
                open.add(f.getName());
            }
            if (Modifier.isStatic(f.getModifiers())) {
                due.isTrue("static and final: " + f.getName(), Modifier.isFinal(f.getModifiers()));
            }
        }
        due.isTrue("the document's constants: " + open, open.equals(CONSTANTS));
    }

    private static void classes() {
        due.isTrue("at most twelve classes", MetAgents.class.getDeclaredClasses().length < 12);
        for (Class<?> c : MetAgents.class.getDeclaredClasses()) {
            due.isTrue("static: " + c.getSimpleName(), Modifier.isStatic(c.getModifiers()));
            for (Method m : c.getDeclaredMethods()) {
                due.isTrue("no name of the face: " + m.getName(),
                    METHODS.stream().noneMatch(t -> t.contains(" " + m.getName() + "(")));
                due.isTrue("at most seven parameters: " + m.getName(), m.getParameterCount() <= 7);
            }
            int own = 0;
            for (Field f : c.getDeclaredFields()) {
                own += Modifier.isStatic(f.getModifiers()) ? 0 : 1;
            }
            due.isTrue("at most twenty fields: " + c.getSimpleName(), own <= 20);
        }
    }

    private static void text(String code) {
        for (String word : new String[] {"throw", "throws", "try", "catch", "synchronized", "assert",
            "package", "native", "volatile", "strictfp", "var", "hashCode", "toString"}) {
            due.isTrue("not in the text: " + word, !Pattern.compile("\\b" + word + "\\b").matcher(code).find());
        }
        due.isTrue("no lambda", !code.contains("->"));
        due.isTrue("no method reference", !code.contains("::"));
        due.isTrue("no Exact", !code.contains("Exact("));
        Matcher used = Pattern.compile("\\b(import [^;]+|java\\.[a-z.]+|System\\.\\w+|Math\\.\\w+|Arrays\\.\\w+)").matcher(code);
        Set<String> allowed = Set.of("import java.util.Arrays", "System.arraycopy", "Math.max", "Math.min",
            "Math.abs", "Arrays.fill");
        while (used.find()) {
            due.isTrue("of the library: " + used.group(1), allowed.contains(used.group(1)));
        }
    }

    /** Rules 8 and 11: short methods, calls not deep, none that calls itself but private static ones. */
    private static void lengthsAndCalls(String code) {
        Map<String, String> bodies = new TreeMap<>();
        Set<String> mayRecur = new TreeSet<>();
        Matcher head = Pattern.compile(
            "(?m)^((?: {4}){1,2})([a-z][\\w\\[\\] ]* )(\\w+)\\([^)]*\\) \\{\n").matcher(code);
        while (head.find()) {
            String body = code.substring(head.end(), code.indexOf("\n" + head.group(1) + "}", head.end()));
            due.isTrue("at most sixty lines: " + head.group(3), body.lines().count() <= 60);
            // two classes may have a method of one name: taken for one, it goes no less deep
            bodies.merge(head.group(3), body, String::concat);
            if (head.group(2).startsWith("private static ")) {
                mayRecur.add(head.group(3));
            }
        }
        due.isTrue("all methods are found", bodies.keySet().containsAll(namesDeclared()));
        for (String name : bodies.keySet()) {
            boolean recurs = calls(bodies.get(name), name);
            due.isTrue("calls itself: " + name, !recurs || mayRecur.contains(name));
            due.isTrue("at most eight deep: " + name, depth(bodies, name, 1) <= 8);
        }
    }

    private static Set<String> namesDeclared() {
        Set<String> names = new TreeSet<>();
        for (Method m : MetAgents.class.getDeclaredMethods()) {
            names.add(m.getName());
        }
        for (Class<?> c : MetAgents.class.getDeclaredClasses()) {
            for (Method m : c.getDeclaredMethods()) {
                names.add(m.getName());
            }
        }
        return names;
    }

    private static boolean calls(String body, String name) {
        return Pattern.compile("\\b" + name + "\\(").matcher(body).find();
    }

    /** How deep the calls go from one at some depth on, a call of itself left out; a round has no end. */
    private static int depth(Map<String, String> bodies, String name, int at) {
        int deepest = at;
        for (String other : bodies.keySet()) {
            if (at < 20 && !other.equals(name) && calls(bodies.get(name), other)) {
                deepest = Math.max(deepest, depth(bodies, other, at + 1));
            }
        }
        return deepest;
    }
}
