import java.io.IOException;
import java.lang.reflect.Constructor;
import java.lang.reflect.Field;
import java.lang.reflect.Method;
import java.lang.reflect.Modifier;
import java.nio.file.Files;
import java.nio.file.Path;
import java.util.ArrayList;
import java.util.Arrays;
import java.util.HashSet;
import java.util.List;
import java.util.Set;
import java.util.TreeSet;
import java.util.regex.Matcher;
import java.util.regex.Pattern;

/** The face of the document, and those rules of LANGUAGE.md that a program can look at. */
public final class LanguageTest {
    private static final String ARGUMENT = "throws java.lang.IllegalArgumentException";
    private static final String[] FACE = {
        "int machine()", "int place(int)", "int limit(int,int,int,int,boolean)",
        "int way(int,int,int,int,int)", "int test(int,int,int,int,boolean)", "int walk()",
        "int state(int,int)", "int bound(int,int,int) " + ARGUMENT, "int seen(int,int,int)",
        "int lead(int,int,int)", "int soonest(int)", "int stuck(int)", "int hand(int,int)",
        "int tighten(int,int,int,boolean)", "int pass()", "int set(int)", "int letGo(int,int,int)",
        "int meet(int)", "int within(int)", "int handBound(int,int) " + ARGUMENT, "int count(int)",
        "int keep(int,int,int,int)", "int make(int,int,int)",
        "long element(int,int) " + ARGUMENT + ",java.lang.IllegalStateException",
        "int copy(int,int,int,int,int)", "int weight(int)", "int toss(int)"};
    private static final String THROWN = "IllegalStateException|IllegalArgumentException"
        + "|IndexOutOfBoundsException|ArithmeticException|UnsupportedOperationException"
        + "|NoSuchElementException|RuntimeException";
    /** Caught, these would hide what the machine itself throws. */
    private static final Set<String> CAUGHT = Set.of("IllegalStateException",
        "IllegalArgumentException", "UnsupportedOperationException", "NoSuchElementException");
    private static int wrong = 0;

    public static void main(String[] args) throws IOException {
        face();
        shape(TimedYard.class);
        for (Class<?> inside : TimedYard.class.getDeclaredClasses()) {
            shape(inside);
            check(Modifier.isStatic(inside.getModifiers()) && !Modifier.isPublic(inside.getModifiers())
                && !Modifier.isProtected(inside.getModifiers()), 1, inside + " is not as rule 1 says");
        }
        check(TimedYard.class.getDeclaredClasses().length < 12, 11, "too many classes");
        text(withoutTexts(Files.readString(Path.of("src/main/java/TimedYard.java"))));
        System.out.println(wrong == 0 ? "the rules are kept" : wrong + " rules are broken");
        if (wrong != 0) {
            System.exit(1);
        }
    }

    private static void check(boolean holds, int rule, String what) {
        if (!holds) {
            wrong++;
            System.out.println("rule " + rule + ": " + what);
        }
    }

    private static String written(Method m) {
        String text = m.getReturnType() + " " + m.getName() + "(" + names(m.getParameterTypes()) + ")";
        return m.getExceptionTypes().length == 0 ? text
            : text + " throws " + names(m.getExceptionTypes());
    }

    private static String names(Class<?>[] types) {
        List<String> names = new ArrayList<>();
        for (Class<?> type : types) {
            names.add(type.getName());
        }
        return String.join(",", names);
    }

    private static void face() {
        Class<?> c = TimedYard.class;
        check(Modifier.isPublic(c.getModifiers()) && Modifier.isFinal(c.getModifiers()), 1, "the class");
        Set<String> found = new TreeSet<>();
        Set<String> publicNames = new HashSet<>();
        Set<String> privateNames = new HashSet<>();
        for (Method m : c.getDeclaredMethods()) {
            if (Modifier.isPrivate(m.getModifiers())) {
                privateNames.add(m.getName());
            } else {
                found.add(written(m));
                publicNames.add(m.getName());
                check(Modifier.isPublic(m.getModifiers()), 1, m + " is not private");
            }
        }
        Set<String> due = new TreeSet<>(Arrays.asList(FACE));
        check(found.equals(due), 1, "the methods are " + found + ", due are " + due);
        privateNames.retainAll(publicNames);
        check(privateNames.isEmpty(), 1, "private methods with public names: " + privateNames);
        Constructor<?>[] constructors = c.getDeclaredConstructors();
        check(constructors.length == 1 && Modifier.isPublic(constructors[0].getModifiers())
            && constructors[0].getParameterCount() == 0, 1, "the constructor");
        for (Field f : c.getDeclaredFields()) {
            boolean constant = f.getName().equals("ANY") && Modifier.isPublic(f.getModifiers())
                && Modifier.isStatic(f.getModifiers()) && f.getType() == int.class;
            check(constant || Modifier.isPrivate(f.getModifiers()), 1, f + " is not private");
        }
    }

    private static void shape(Class<?> c) {
        int fields = 0;
        for (Field f : c.getDeclaredFields()) {
            if (Modifier.isStatic(f.getModifiers())) {
                check(Modifier.isFinal(f.getModifiers()) && f.getType().isPrimitive(), 5, f + "");
            } else {
                fields++;
            }
        }
        check(fields <= 20, 11, c + " has " + fields + " fields");
        for (Method m : c.getDeclaredMethods()) {
            check(m.getParameterCount() <= 7, 11, m + " takes too much");
        }
    }

    /** The program without comments and with empty texts, line by line as it was. */
    private static String withoutTexts(String source) {
        String text = source.replaceAll("\"(\\\\.|[^\"\\\\\n])*\"", "\"\"");
        Matcher comment = Pattern.compile("/\\*.*?\\*/", Pattern.DOTALL).matcher(text);
        text = comment.replaceAll(found -> found.group().replaceAll("[^\n]", ""));
        return text.replaceAll("//[^\n]*", "");
    }

    private static void text(String code) {
        for (String word : new String[] {"->", "::", "finally", "synchronized", "assert", "Exact(",
            "@", "package", "protected", "System.out", "getMessage", "native", "volatile"}) {
            check(!code.contains(word), 6, "the program has " + word);
        }
        Matcher imports = Pattern.compile("import ([^;]*);").matcher(code);
        while (imports.find()) {
            check(Set.of("java.util.Arrays", "java.util.ArrayList", "java.util.List")
                .contains(imports.group(1)), 4, "import " + imports.group(1));
        }
        Matcher thrown = Pattern.compile("throw ([^;]*);").matcher(code);
        while (thrown.find()) {
            check(thrown.group(1).matches("new (" + THROWN + ")\\((\"\")?\\)"), 6, thrown.group());
        }
        Matcher caught = Pattern.compile("catch \\((\\w+) ").matcher(code);
        while (caught.find()) {
            check(CAUGHT.contains(caught.group(1)), 6, caught.group());
        }
        methods(code.split("\n"));
    }

    /** A method begins with a line that ends in ") {" or a throws clause at a member's depth. */
    private static void methods(String[] lines) {
        int depth = 0;
        int begun = -1;
        int begunDepth = 0;
        Pattern head = Pattern.compile("^ +[\\w\\[\\] ]+\\([^;=]*\\)( throws [\\w, ]+)? \\{$");
        Pattern control = Pattern.compile("^ +(if|for|while|switch|try|do|else|return|\\}).*");
        for (int n = 0; n < lines.length; n++) {
            if (begun < 0 && head.matcher(lines[n]).matches() && !control.matcher(lines[n]).matches()) {
                begun = n;
                begunDepth = depth;
            }
            for (char sign : lines[n].toCharArray()) {
                depth += sign == '{' ? 1 : sign == '}' ? -1 : 0;
            }
            if (begun >= 0 && depth == begunDepth) {
                check(n - begun < 60, 11, lines[begun].trim() + " is too long");
                oneSide(lines, begun, n);
                begun = -1;
            }
        }
    }

    private static void oneSide(String[] lines, int from, int to) {
        String body = String.join("\n", Arrays.copyOfRange(lines, from, to + 1));
        check(!(body.contains("throw new") && body.contains("catch (")), 6,
            lines[from].trim() + " throws and catches");
    }
}
