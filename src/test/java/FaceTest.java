import java.lang.reflect.Constructor;
import java.lang.reflect.Field;
import java.lang.reflect.Method;
import java.lang.reflect.Modifier;
import java.nio.file.Files;
import java.nio.file.Path;
import java.util.Arrays;
import java.util.Set;
import java.util.TreeSet;
import java.util.regex.Matcher;
import java.util.regex.Pattern;

/** The document's face, and those rules of LANGUAGE.md that can be looked up in the class and its source. */
public final class FaceTest {
    private static final String[] FACE = {
        "int doll(int)", "int child(int)", "int piece(int,int,int)", "int type(int)", "int clear()", "int read()",
        "int puts(int)", "int takes(int)", "int mends(int)", "int undo()", "int of(int,int)", "int seen(int)",
        "int can()", "int off()", "int going(int)", "int outfits(int)", "int lean(int)", "int days()",
        "int spared()", "int few(int)", "int note(int,int,int)", "int mark(int,int,int,int)", "int forget(int)",
        "int is()", "int look()", "int kinds(int)", "int ask(int)", "int two(int)", "int luck(int)",
        "int evenings(int,int)", "long part(int)", "int image(int)", "int from(int)", "int status(int)",
        "int count(int)", "long digest()",
    };
    private static final String[] FORBIDDEN = {
        "\\bthrow\\b", "\\bthrows\\b", "\\btry\\b", "\\bcatch\\b", "\\bfinally\\b", "\\bsynchronized\\b",
        "\\bassert\\b", "->", "::", "\\bimport\\b", "\\bpackage\\b", "Exact\\b", "\\brecord\\b", "\\bvar\\b",
        "\\bRandom\\b", "currentTimeMillis", "nanoTime", "\\bThread\\b", "\\bObject\\b", "\\.equals\\(",
        "hashCode", "toString", "\\bdouble\\b", "\\bfloat\\b", "static \\{",
    };
    private static final int LONGEST_METHOD = 60;
    private static final int MOST_PARAMETERS = 7;
    private static final int MOST_CLASSES = 12;
    private static final int MOST_FIELDS = 20;

    private static int wrong = 0;

    public static void main(String[] args) throws Exception {
        checkFace();
        checkInside();
        checkSource();
        System.out.println(wrong == 0 ? "the face and the rules stand" : wrong + " faults");
        System.exit(wrong == 0 ? 0 : 1);
    }

    private static void want(boolean so, String what) {
        if (!so) {
            wrong++;
            System.out.println("not so: " + what);
        }
    }

    private static String told(Method m) {
        StringBuilder text = new StringBuilder();
        text.append(m.getReturnType().getSimpleName()).append(' ').append(m.getName()).append('(');
        Class<?>[] types = m.getParameterTypes();
        for (int i = 0; i < types.length; i++) {
            text.append(i == 0 ? "" : ",").append(types[i].getSimpleName());
        }
        return text.append(')').toString();
    }

    private static void checkFace() throws Exception {
        int modifiers = PaperDolls.class.getModifiers();
        want(Modifier.isPublic(modifiers) && Modifier.isFinal(modifiers), "a public final class");
        Set<String> face = new TreeSet<>(Arrays.asList(FACE));
        Set<String> found = new TreeSet<>();
        Set<String> names = new TreeSet<>();
        for (Method m : PaperDolls.class.getDeclaredMethods()) {
            if (Modifier.isPublic(m.getModifiers())) {
                want(!Modifier.isStatic(m.getModifiers()), m + " belongs to an object");
                found.add(told(m));
                names.add(m.getName());
            } else {
                want(Modifier.isPrivate(m.getModifiers()), m + " is private");
            }
        }
        want(found.equals(face), "the methods " + face + ", found are " + found);
        Constructor<?>[] constructors = PaperDolls.class.getDeclaredConstructors();
        want(constructors.length == 1 && Modifier.isPublic(constructors[0].getModifiers())
            && constructors[0].getParameterCount() == 0, "one public constructor without parameters");
        Set<String> constants = new TreeSet<>();
        for (Field f : PaperDolls.class.getDeclaredFields()) {
            if (Modifier.isPublic(f.getModifiers())) {
                constants.add(f.getType() + " " + f.getName() + " " + f.get(null));
            } else {
                want(Modifier.isPrivate(f.getModifiers()), f + " is private");
            }
        }
        want(constants.equals(new TreeSet<>(Arrays.asList("int NONE -101", "int BAD -102", "int NO -103",
            "int FULL -104"))), "the constants, found are " + constants);
        checkNames(PaperDolls.class, names);
        for (Class<?> c : PaperDolls.class.getDeclaredClasses()) {
            checkNames(c, names);
        }
    }

    private static void checkNames(Class<?> c, Set<String> publicNames) {
        for (Method m : c.getDeclaredMethods()) {
            boolean own = c == PaperDolls.class && Modifier.isPublic(m.getModifiers());
            want(own || !publicNames.contains(m.getName()), m + " bears no public name");
            want(m.getParameterCount() <= MOST_PARAMETERS, m + " has few parameters");
        }
    }

    private static void checkInside() {
        Class<?>[] classes = PaperDolls.class.getDeclaredClasses();
        want(classes.length + 1 <= MOST_CLASSES, "few classes");
        checkFields(PaperDolls.class);
        for (Class<?> c : classes) {
            want(Modifier.isStatic(c.getModifiers()), c + " is static");
            checkFields(c);
        }
    }

    private static void checkFields(Class<?> c) {
        int fields = 0;
        for (Field f : c.getDeclaredFields()) {
            if (Modifier.isStatic(f.getModifiers())) {
                want(Modifier.isFinal(f.getModifiers()), f + " is final");
                want(f.getType() == int.class, f + " is a constant of int");
            } else {
                fields++;
            }
        }
        want(fields <= MOST_FIELDS, c + " has few fields");
    }

    private static void checkSource() throws Exception {
        String source = Files.readString(Path.of("src/main/java/PaperDolls.java"));
        String code = source.replaceAll("(?s)/\\*.*?\\*/", "").replaceAll("//[^\n]*", "")
            .replaceAll("\"[^\"\n]*\"", "\"\"");
        for (String pattern : FORBIDDEN) {
            Matcher matcher = Pattern.compile(pattern).matcher(code);
            want(!matcher.find(), "no " + pattern);
        }
        for (int i = 0; i < source.length(); i++) {
            want(source.charAt(i) < 127, "plain signs alone, at " + i);
        }
        checkMethodLengths(source.split("\n"));
    }

    /** A method begins at a line that ends in ") {" and ends at the brace below its first sign. */
    private static void checkMethodLengths(String[] lines) {
        Pattern head = Pattern.compile("^( {4}| {8})(?! )(?!if|for|while|switch|else|do|return).*\\(.*\\) \\{$");
        for (int from = 0; from < lines.length; from++) {
            Matcher matcher = head.matcher(lines[from]);
            if (matcher.find()) {
                String end = matcher.group(1) + "}";
                int to = from;
                while (to < lines.length - 1 && !lines[to].equals(end)) {
                    to++;
                }
                want(to - from + 1 <= LONGEST_METHOD, "short: " + lines[from].trim());
            }
        }
    }
}
