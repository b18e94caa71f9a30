import java.lang.reflect.Method;
import java.lang.reflect.Modifier;
import java.util.function.Supplier;

/** Whatever numbers come, in whatever state: each call of the face answers, and never throws. */
public final class AnyNumberTests extends Edges {
    private static final int[] NUMBERS = {LOW, LOW + 1, -104, -103, -1, 0, 1, 2, 3, 4, 7, 8, 9, 10, 15, 18, 60, 511, 512,
        1 << 30, HIGH};
    private static final int CALLS_EACH = 400;

    /** Digits of the turn by how many values each parameter has, so that all of them come together. */
    private static Object[] numbers(Class<?>[] types, int turn) {
        Object[] all = new Object[types.length];
        int rest = turn;
        for (int i = 0; i < types.length; i++) {
            int number = NUMBERS[Math.floorMod(rest, NUMBERS.length)];
            if (types[i] == boolean.class) {
                all[i] = rest % 2 == 0;
                rest /= 2;
            } else {
                all[i] = types[i] == long.class ? (Object) (((long) number << 31) + 7L * rest) : (Object) number;
                rest /= NUMBERS.length;
            }
        }
        return all;
    }

    private static int turns(Class<?>[] types) {
        int turns = 1;
        for (Class<?> type : types) {
            turns *= type == boolean.class ? 2 : NUMBERS.length;
        }
        return turns;
    }

    /** An object is taken for at most 512 calls. */
    private static void answersAll(Method m, Supplier<SurpriseSaturday> made) throws ReflectiveOperationException {
        int turns = turns(m.getParameterTypes());
        SurpriseSaturday x = made.get();
        for (int turn = 0; turn < turns; turn++) {
            if (turn % CALLS_EACH == 0) {
                x = made.get();
            }
            long answer = ((Number) m.invoke(x, numbers(m.getParameterTypes(), turn))).longValue();
            if (!m.getName().equals("digest") && answer < 0 && answer != NONE) {
                due(m.getName() + " " + turn + " refuses as told", answer >= FULL && answer <= UNKNOWN ? 1 : 0, 1);
            }
        }
    }

    static void promise01To30_anyNumbersInAnyState() throws ReflectiveOperationException {
        for (Method m : SurpriseSaturday.class.getDeclaredMethods()) {
            if (Modifier.isPublic(m.getModifiers())) {
                answersAll(m, SurpriseSaturday::new);
                answersAll(m, Edges::some);
                answersAll(m, Edges::middling);
                answersAll(m, Edges::full);
            }
        }
    }

    public static void main(String[] args) {
        runAll(AnyNumberTests.class);
    }
}
