import java.lang.reflect.Constructor;
import java.lang.reflect.Field;
import java.lang.reflect.Method;
import java.lang.reflect.Modifier;
import java.nio.file.Files;
import java.nio.file.Path;
import java.util.Arrays;
import java.util.Set;
import java.util.TreeSet;
import java.util.regex.Matcher;
import java.util.regex.Pattern;
import java.util.stream.Collectors;

/** The public face as the document writes it, and what can be seen of LANGUAGE.md from outside. */
public final class FaceTests {
    private static final Path SOURCE = Path.of("src/main/java/SurpriseSaturday.java");
    private static final String FACE = "int guest(int, int); int about(int, int); int as(int, int);"
        + " int sees(int, int, int, boolean); int tell(int, int); int letters(long); int blank(); int fault();"
        + " int list(); int meeting(int, int); long known(int); long whose(int, int); int right(); long best(int);"
        + " int hole(); int latest(int); int story(int); int clash(int, int, boolean); int cover(int);"
        + " int sign(int, int); int look(int, int); long belief(int, int); int parting();"
        + " long quiet(int, int, int, int); int weeks(int, int); int image(); int restore(); int count(int);"
        + " long digest()";
    private static final String CONSTANTS = "FULL=-104, NONE=-1, OUTSIDE=-102, STATE=-103, UNKNOWN=-101";

    /** Rule 4, as far as the class has a use for it: functions alone, no constants of the library. */
    private static final Set<String> LIBRARY = Set.of("Integer.bitCount(", "Math.abs(", "Math.min(", "Math.max(",
        "System.arraycopy(", "Arrays.fill(", "Arrays.copyOf(", "Arrays.copyOfRange(");
    private static final int MOST_LINES = 60;

    private static int wrong = 0;

    private static void due(String what, Object got, Object want) {
        if (!got.equals(want)) {
            wrong++;
            System.out.println(what + " is " + got + ", due is " + want);
        }
    }

    private static String written(Method m) {
        String types = Arrays.stream(m.getParameterTypes()).map(Class::getName).collect(Collectors.joining(", "));
        return m.getReturnType().getName() + " " + m.getName() + "(" + types + ")";
    }

    private static void face() throws IllegalAccessException {
        Class<?> c = SurpriseSaturday.class;
        due("the class", Modifier.toString(c.getModifiers()), "public final");
        Set<String> methods = new TreeSet<>();
        Set<String> names = new TreeSet<>();
        for (Method m : c.getDeclaredMethods()) {
            if (!Modifier.isPrivate(m.getModifiers())) {
                due("modifiers of " + m.getName(), Modifier.toString(m.getModifiers()), "public");
                methods.add(written(m));
                names.add(m.getName());
            }
        }
        due("the methods", methods, new TreeSet<>(Arrays.asList(FACE.split("; "))));
        Set<String> constants = new TreeSet<>();
        for (Field f : c.getDeclaredFields()) {
            if (!Modifier.isPrivate(f.getModifiers())) {
                due("modifiers of " + f.getName(), Modifier.toString(f.getModifiers()), "public static final");
                constants.add(f.getName() + "=" + f.getInt(null));
            }
        }
        due("the constants", String.join(", ", constants), CONSTANTS);
        Constructor<?>[] constructors = c.getDeclaredConstructors();
        due("constructors", constructors.length, 1);
        due("the constructor", constructors[0].toString(), "public SurpriseSaturday()");
        for (Method m : c.getDeclaredMethods()) {
            if (Modifier.isPrivate(m.getModifiers())) {
                due("a private namesake of " + m.getName(), names.contains(m.getName()), false);
            }
        }
        inside(c, names);
        staticFields(c);
        for (Class<?> k : c.getDeclaredClasses()) {
            staticFields(k);
        }
    }

    /** Rule 5. */
    private static void staticFields(Class<?> k) {
        for (Field f : k.getDeclaredFields()) {
            if (Modifier.isStatic(f.getModifiers())) {
                due(f + " is final", Modifier.isFinal(f.getModifiers()), true);
            }
        }
    }

    private static void inside(Class<?> c, Set<String> names) {
        due("at most twelve classes", c.getDeclaredClasses().length < 12, true);
        for (Class<?> k : c.getDeclaredClasses()) {
            due(k + " is static", Modifier.isStatic(k.getModifiers()), true);
            due(k + " has few fields", k.getDeclaredFields().length <= 20, true);
            for (Method m : k.getDeclaredMethods()) {
                due("a namesake of " + m, names.contains(m.getName()), false);
                due("parameters of " + m, m.getParameterCount() <= 7, true);
            }
        }
    }

    /** Rules 2, 6, 12: words that the program does not use, and rows made with the object alone. */
    private static void words(String text, String code) {
        String[] banned = {"throw", "throws", "try", "catch", "synchronized", "assert", "package", "protected",
            "var", "yield", "double", "float", "\\w+Exact\\(", "->", "::", "String", "System\\.(?!arraycopy)"};
        for (String word : banned) {
            String edge = Character.isLetter(word.charAt(0)) ? "\\b" : "";
            String end = Character.isLetter(word.charAt(word.length() - 1)) ? "\\b" : "";
            due("the word " + word, Pattern.compile(edge + word + end).matcher(code).find(), false);
        }
        due("plain signs alone", text.chars().allMatch(s -> s == '\n' || s >= ' ' && s < 127), true);
        for (String line : code.split("\n")) {
            if (line.contains("new ")) {
                due("made with the object: " + line, line.matches("\\s+(private final int\\[\\] )?\\w+ = new .*"), true);
            }
        }
    }

    /** Rule 4. */
    private static void library(String code) {
        Matcher used = Pattern.compile("\\b(?:Integer|Long|Short|Byte|Character|Boolean|Math|System|Arrays)\\.\\w+\\(?").matcher(code);
        while (used.find()) {
            due(used.group() + " is in the library that is left", LIBRARY.contains(used.group()), true);
        }
        Matcher imported = Pattern.compile("\\bimport ([^;]*);").matcher(code);
        while (imported.find()) {
            due("what is imported", imported.group(1), "java.util.Arrays");
        }
    }

    /** Rule 11: from the line that opens a method to the one that closes it, by their indents. */
    private static void lengths(String code) {
        Matcher method = Pattern.compile("(?m)^( +)[\\w\\[\\] ]+\\([^;{}]*\\) \\{$").matcher(code);
        int methods = 0;
        while (method.find()) {
            int end = code.indexOf("\n" + method.group(1) + "}\n", method.end());
            int lines = (int) code.substring(method.start(), Math.max(end, method.end())).lines().count() + 1;
            due(method.group().trim() + " is short", lines <= MOST_LINES, true);
            methods++;
        }
        due("methods were found", methods > 29, true);
    }

    public static void main(String[] args) throws Exception {
        String text = Files.readString(SOURCE);
        String code = text.replaceAll("(?s)/\\*.*?\\*/", "").replaceAll("//[^\n]*", "");
        face();
        words(text, code);
        library(code);
        lengths(code);
        System.out.println(wrong == 0 ? "all is as due" : wrong + " things are not as due");
        if (wrong != 0) {
            System.exit(1);
        }
    }
}
