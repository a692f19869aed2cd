import java.lang.reflect.Method;
import java.lang.reflect.Modifier;
import java.nio.file.Files;
import java.nio.file.Path;
import java.util.Set;
import java.util.TreeSet;
import java.util.regex.Matcher;
import java.util.regex.Pattern;

/** Makes the calls of README.md's examples, each of which says its answer, and wants each method to be shown. */
public final class ReadmeTest {
    private static final String MADE = "PaperDolls x = new PaperDolls();";
    private static final Pattern TYPED =
        Pattern.compile("for \\(char c : \"([^\"]*)\"\\.toCharArray\\(\\)\\) x\\.type\\(c\\);");
    private static final Pattern CALL = Pattern.compile("x\\.([a-z]+)\\(([^)]*)\\); +// (-?[0-9]+)(:.*)?");

    private static final Set<String> shown = new TreeSet<>();
    private static int wrong = 0;
    private static int calls = 0;

    public static void main(String[] args) throws Exception {
        PaperDolls x = null;
        boolean inside = false;
        for (String line : Files.readString(Path.of("README.md")).split("\n")) {
            if (line.startsWith("```")) {
                inside = line.equals("```java");
                x = null;
            } else if (inside && line.equals(MADE)) {
                x = new PaperDolls();
            } else if (inside) {
                runLine(x, line);
            }
        }
        for (Method m : PaperDolls.class.getDeclaredMethods()) {
            if (Modifier.isPublic(m.getModifiers()) && !shown.contains(m.getName())) {
                fault(m.getName() + " is not shown");
            }
        }
        System.out.println(calls + " calls of README.md, " + wrong + " wrong");
        System.exit(wrong == 0 ? 0 : 1);
    }

    private static void fault(String what) {
        wrong++;
        System.out.println("README.md: " + what);
    }

    private static void runLine(PaperDolls x, String line) throws Exception {
        Matcher typed = TYPED.matcher(line);
        Matcher call = CALL.matcher(line);
        if (x == null) {
            fault("no object was made ahead of: " + line);
        } else if (typed.matches()) {
            for (char c : typed.group(1).toCharArray()) {
                x.type(c);
            }
        } else if (call.matches()) {
            long got = answer(x, call.group(1), call.group(2));
            if (got != Long.parseLong(call.group(3))) {
                fault(line + " -- answered " + got);
            }
        } else {
            fault("no call with its answer: " + line);
        }
    }

    private static long answer(PaperDolls x, String name, String told) throws Exception {
        String[] texts = told.isEmpty() ? new String[0] : told.split(", ");
        Class<?>[] types = new Class<?>[texts.length];
        Object[] numbers = new Object[texts.length];
        for (int i = 0; i < texts.length; i++) {
            types[i] = int.class;
            numbers[i] = texts[i].startsWith("'") ? texts[i].charAt(1) : Integer.parseInt(texts[i]);
        }
        shown.add(name);
        calls++;
        return ((Number) PaperDolls.class.getMethod(name, types).invoke(x, numbers)).longValue();
    }
}
