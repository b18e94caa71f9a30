import java.io.IOException;
import java.lang.reflect.Method;
import java.lang.reflect.Modifier;
import java.nio.file.Files;
import java.nio.file.Path;
import java.util.ArrayList;
import java.util.List;
import java.util.Set;
import java.util.TreeSet;
import java.util.regex.Matcher;
import java.util.regex.Pattern;
import java.util.stream.Collectors;
import java.util.stream.Stream;

/** What README.md says of the project holds: its calls, its table, the tests and files that it names. */
public final class ReadmeTests {
    private static final Pattern BLOCK = Pattern.compile("(?ms)^```java\n(.*?)^```$");
    private static final Pattern CALL = Pattern.compile("x\\.(\\w+)\\((.*?)\\);\\s+// (-?\\w+): .*");
    private static final Pattern REFUSAL = Pattern.compile("(?m)^\\| `(\\w+)`\\s*\\| (-\\d+)\\s*\\|");
    private static final Pattern TEST = Pattern.compile("\\b\\w+Tests\\b");
    private static final Pattern FILE = Pattern.compile("(?<![\\w./])(?:\\.\\./shared|src|\\.ci)/[\\w/.]*\\w");

    private static int wrong = 0;

    private static void due(String what, Object got, Object want) {
        if (!got.equals(want)) {
            wrong++;
            System.out.println(what + " is " + got + ", due is " + want);
        }
    }

    private static long constant(String name) throws ReflectiveOperationException {
        return SurpriseSaturday.class.getField(name).getInt(null);
    }

    private static long number(String written) throws ReflectiveOperationException {
        return Character.isUpperCase(written.charAt(0)) ? constant(written) : Long.decode(written);
    }

    private static Object argument(String written, Class<?> type) {
        if (type == boolean.class) {
            return Boolean.valueOf(written);
        }
        return type == long.class ? (Object) Long.decode(written.replace("L", "")) : (Object) Integer.decode(written);
    }

    private static Method named(String name) {
        return Stream.of(SurpriseSaturday.class.getDeclaredMethods()).filter(m -> m.getName().equals(name)).findFirst().orElseThrow();
    }

    private static long answer(SurpriseSaturday x, String name, String written) throws ReflectiveOperationException {
        Method m = named(name);
        List<Object> arguments = new ArrayList<>();
        for (String one : written.isEmpty() ? new String[0] : written.split(", ")) {
            arguments.add(argument(one, m.getParameterTypes()[arguments.size()]));
        }
        return ((Number) m.invoke(x, arguments.toArray())).longValue();
    }

    /** All blocks go on with one object, as the page says. */
    private static void calls(String page) throws ReflectiveOperationException {
        SurpriseSaturday x = new SurpriseSaturday();
        Set<String> called = new TreeSet<>();
        String lines = BLOCK.matcher(page).results().map(b -> b.group(1)).collect(Collectors.joining());
        for (String line : lines.split("\n")) {
            Matcher call = CALL.matcher(line);
            if (call.matches()) {
                called.add(call.group(1));
                due(line, answer(x, call.group(1), call.group(2)), number(call.group(3)));
            } else if (!line.isBlank()) {
                due("a line that is no call", line, "SurpriseSaturday x = new SurpriseSaturday();");
            }
        }
        Set<String> face = Stream.of(SurpriseSaturday.class.getDeclaredMethods())
            .filter(m -> Modifier.isPublic(m.getModifiers())).map(Method::getName).collect(Collectors.toSet());
        due("the calls that are shown", called, new TreeSet<>(face));
    }

    private static void refusals(String page) throws ReflectiveOperationException {
        Set<String> told = new TreeSet<>();
        Matcher row = REFUSAL.matcher(page);
        while (row.find()) {
            told.add(row.group(1));
            due("the value of " + row.group(1), Long.valueOf(row.group(2)), constant(row.group(1)));
        }
        due("the refusals", told, new TreeSet<>(Set.of("UNKNOWN", "OUTSIDE", "STATE", "FULL")));
        due("NONE is told", page.contains("`NONE` is " + SurpriseSaturday.NONE + "."), true);
    }

    private static void files(String page) throws IOException {
        Set<String> there = new TreeSet<>();
        try (Stream<Path> tests = Files.list(Path.of("src/test/java"))) {
            tests.forEach(t -> there.add(t.getFileName().toString().replace(".java", "")));
        }
        Set<String> told = TEST.matcher(page).results().map(t -> t.group()).collect(Collectors.toSet());
        due("the tests that are told", new TreeSet<>(told).toString(), there.toString());
        Matcher file = FILE.matcher(page);
        while (file.find()) {
            due(file.group() + " is there", Files.exists(Path.of(file.group())), true);
        }
        due(".ci/run can be called", Files.isExecutable(Path.of(".ci/run")), true);
    }

    public static void main(String[] args) throws Exception {
        String page = Files.readString(Path.of("README.md"));
        calls(page);
        refusals(page);
        files(page);
        System.out.println(wrong == 0 ? "all is as due" : wrong + " things are not as due");
        if (wrong != 0) {
            System.exit(1);
        }
    }
}
