import java.lang.reflect.InvocationTargetException;
import java.lang.reflect.Method;
import java.lang.reflect.Modifier;
import java.util.ArrayList;
import java.util.Comparator;
import java.util.List;
import java.util.function.Supplier;
import java.util.function.ToLongFunction;

/** What the tests of the document's edges share: each test is a static method that names its promise. */
abstract class Edges {
    static final int NONE = SurpriseSaturday.NONE;
    static final int UNKNOWN = SurpriseSaturday.UNKNOWN;
    static final int OUTSIDE = SurpriseSaturday.OUTSIDE;
    static final int STATE = SurpriseSaturday.STATE;
    static final int FULL = SurpriseSaturday.FULL;
    static final int LOW = Integer.MIN_VALUE;
    static final int HIGH = Integer.MAX_VALUE;

    private static final String KINDS = "GANQH";

    private static String test = "";
    private static int tests = 0;
    private static int wrong = 0;

    /** Runs each static method of no parameters whose name begins with "promise". */
    static void runAll(Class<?> file) {
        List<Method> found = new ArrayList<>();
        for (Method m : file.getDeclaredMethods()) {
            if (m.getName().startsWith("promise") && m.getParameterCount() == 0 && Modifier.isStatic(m.getModifiers())) {
                found.add(m);
            }
        }
        found.sort(Comparator.comparing(Method::getName));
        for (Method m : found) {
            run(m);
        }
        System.out.println(tests + " tests, " + (wrong == 0 ? "all answers are as due" : wrong + " answers are not as due"));
        if (wrong != 0 || tests == 0) {
            System.exit(1);
        }
    }

    private static void run(Method m) {
        test = m.getName();
        tests++;
        try {
            m.invoke(null);
        } catch (InvocationTargetException | IllegalAccessException e) {
            wrong++;
            System.out.println(test + ": ended by " + (e.getCause() == null ? e : e.getCause()));
        }
    }

    static void due(String call, long got, long want) {
        if (got != want) {
            wrong++;
            System.out.println(test + ": " + call + " answered " + got + ", due is " + want);
        }
    }

    static void dueParts(String call, long above, long below, long wantAbove, long wantBelow) {
        due(call + ", above", above, wantAbove);
        due(call + ", below", below, wantBelow);
    }

    static void dueKnown(String when, SurpriseSaturday x, long above, long below) {
        dueParts("known() " + when, x.known(0), x.known(1), above, below);
    }

    static void dueCounts(String when, SurpriseSaturday x, int... counts) {
        for (int what = 0; what < counts.length; what++) {
            due("count(" + what + ") " + when, x.count(what), counts[what]);
        }
    }

    /** GUESTS by the first letters of their KINDS, with their BY: "G A N5 Q H7". */
    static SurpriseSaturday party(String kinds) {
        SurpriseSaturday x = new SurpriseSaturday();
        for (String one : kinds.split(" ")) {
            x.guest(KINDS.indexOf(one.charAt(0)), one.length() == 1 ? 0 : one.charAt(1) - '0');
        }
        return x;
    }

    static SurpriseSaturday some() {
        return party("G A N5 Q H7");
    }

    static SurpriseSaturday nine() {
        return party("G A N1 N8 Q H1 H8 G A");
    }

    static long packed(String text) {
        long w = 0;
        for (int i = text.length() - 1; i >= 0; i--) {
            w = w << 8 | text.charAt(i);
        }
        return w;
    }

    /** Letters behind THE PAGE, in as many calls as it takes. */
    static SurpriseSaturday write(SurpriseSaturday x, String text) {
        for (int i = 0; i < text.length(); i += 8) {
            x.letters(packed(text.substring(i, Math.min(i + 8, text.length()))));
        }
        return x;
    }

    static SurpriseSaturday read(SurpriseSaturday x, String list) {
        x.blank();
        write(x, list);
        due("list() of " + list, x.list(), (list.length() + 1) / 4);
        return x;
    }

    /** The same MEETING so many times. */
    static String times(String meeting, int many) {
        return (meeting + ",").repeat(many).substring(0, many * 4 - 1);
    }

    /** Each GUEST in turn is TOLD on one of the DAYS: "120" tells 0 on 1, 1 on 2 and 2 not at all. */
    static SurpriseSaturday tell(SurpriseSaturday x, String days) {
        for (int guest = 0; guest < days.length(); guest++) {
            x.tell(guest, days.charAt(guest) - '0');
        }
        return x;
    }

    /** A little of all, an IMAGE too, and room for more of each. */
    static SurpriseSaturday middling() {
        SurpriseSaturday x = read(some(), "222,016,355,471,487");
        x.sees(1, 2, 3, true);
        x.sees(3, 1, 8, true);
        x.sees(0, 4, 2, true);
        x.image();
        tell(x, "03106");
        x.story(7);
        x.story(24);
        x.story(31);
        x.clash(0, 2, true);
        x.sign(8, 2);
        x.sign(3, 4);
        x.look(1, 1);
        x.image();
        x.tell(0, 2);
        x.look(0, 2);
        x.sees(0, 4, 1, true);
        return write(x, "01");
    }

    /** As much of all as there may be, four NEEDED ones, and an IMAGE of another plan. */
    static SurpriseSaturday full() {
        SurpriseSaturday x = read(party("G A N5 Q H7 A N2 H8 G"),
            "013,224,357,462,581,619,725,834,111,273,388,445,656,787,823");
        for (int other = 0; other < 9; other += 2) {
            x.sees(1, other, 2 + other / 2, true);
            x.sees(other, (other + 3) % 9, 8 - other / 2, true);
        }
        tell(x, "410300058");
        for (int at = 0; at < 8; at++) {
            x.story(73 << (at % 3) & 511);
            x.sign(9 - at, 2 + at % 4);
        }
        x.clash(0, 1, true);
        x.clash(7, 2, true);
        x.look(0, 1);
        x.look(7, 2);
        x.image();
        x.tell(3, 0);
        x.look(3, 1);
        x.sees(8, 0, 8, true);
        return write(x, times("011", 15) + ",");
    }

    /** An object for which best() was done so many times. */
    static SurpriseSaturday spent(SurpriseSaturday x, int many) {
        for (int i = 0; i < many; i++) {
            x.best(i % 2);
        }
        return x;
    }

    /** The call is refused so, and all that an object tells is afterwards as if it had never been. */
    static void refused(String call, Supplier<SurpriseSaturday> made, ToLongFunction<SurpriseSaturday> refusal, int want) {
        due(call, refusal.applyAsLong(made.get()), want);
        changesNothing(call, made, refusal);
    }

    static void changesNothing(String call, Supplier<SurpriseSaturday> made, ToLongFunction<SurpriseSaturday> asked) {
        for (int round = 0; round < 2; round++) {
            SurpriseSaturday with = made.get();
            asked.applyAsLong(with);
            List<String> after = allAnswers(with, round == 1);
            List<String> before = allAnswers(made.get(), round == 1);
            for (int i = 0; i < before.size(); i++) {
                if (i >= after.size() || !after.get(i).equals(before.get(i))) {
                    wrong++;
                    System.out.println(test + ": " + call + " changed " + before.get(i));
                    break;
                }
            }
        }
    }

    /** Once of the object as it is, once of it gone back to its IMAGE; fewer than 420 calls. */
    private static List<String> allAnswers(SurpriseSaturday x, boolean restored) {
        List<String> all = new ArrayList<>();
        if (restored) {
            all.add("restore() " + x.restore());
        }
        all.add("digest() " + x.digest());
        all.add("fault() " + x.fault());
        for (int what = 0; what < 8; what++) {
            all.add("count(" + what + ") " + x.count(what));
        }
        for (int takes = 0; takes < 10; takes++) {
            all.add("belief(" + takes + ") " + x.belief(takes, 0) + "/" + x.belief(takes, 1));
        }
        for (int seed = 0; seed < 6; seed++) {
            all.add("weeks(" + seed + ") " + x.weeks(seed, 0) + " " + x.weeks(seed, 1) + " " + x.weeks(seed, 2));
        }
        for (int guest = 0; guest < x.count(0); guest++) {
            all.add("whose(" + guest + ") " + x.whose(guest, 0) + "/" + x.whose(guest, 1));
        }
        addPairs(all, x);
        for (int what : new int[] {0, 1, 10, 11, 12, 13, 14, 15, 16, 17, 18}) {
            all.add("best(" + what + ") " + x.best(what));
        }
        return all;
    }

    private static void addPairs(List<String> all, SurpriseSaturday x) {
        int guests = x.count(0);
        for (int pair = 0; pair < guests * guests; pair++) {
            int a = pair / guests;
            int b = pair % guests;
            for (int day = 1; day <= 8 && a < b; day++) {
                all.add("sees(" + a + ", " + b + ", " + day + ") " + x.sees(a, b, day, false));
            }
        }
        int stories = x.count(2);
        for (int pair = 0; pair < stories * stories; pair++) {
            int a = pair / stories;
            int b = pair % stories;
            if (a < b) {
                all.add("clash(" + a + ", " + b + ") " + x.clash(a, b, false));
            }
        }
    }
}
