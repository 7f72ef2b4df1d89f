import java.lang.reflect.InvocationTargetException;
import java.lang.reflect.Method;
import java.lang.reflect.Modifier;
import java.util.Arrays;
import java.util.Comparator;
import java.util.List;
import java.util.Random;
import java.util.Set;

/**
 * Each call with ends and beyonds of all bounds, any with any, of a new object, of one with something
 * of everything, of a full one: nothing is thrown, and what is refused or asks alone changes nothing.
 */
public final class ExtremesTest {
    private static final int[] ENDS = {Integer.MIN_VALUE, Integer.MIN_VALUE + 1, -2, -1, 0, 1, 2, 3, 4, 5, 6, 7, 8, 20, 21, 29, 30, 31, 89, 90, 91,
        399, 400, 801, 10000, 10001, 30000, 30001, (1 << 29) - 1, 1 << 29, (1 << 30) - 1, 1 << 30, Integer.MAX_VALUE};
    /** All other calls ask alone. */
    private static final Set<String> DOING = Set.of("name", "read", "answer", "asOf", "type", "wipe", "known", "cost", "sheet", "lose", "put", "copy", "write");
    private static final int MOST_SAMPLES = 8000;
    /** With the calls that make the object they stay below 512. */
    private static final int SAMPLES_OF_AN_OBJECT = 60;

    private static final Check CHECK = new Check("ExtremesTest");
    private static final Random RANDOM = new Random(3);

    public static void main(String[] args) throws IllegalAccessException {
        List<Cases.Maker> makers = List.of(DrawnList::new, Lists::rich, ExtremesTest::full);
        for (Method m : calls()) {
            for (Cases.Maker maker : makers) {
                sweep(m, maker);
            }
        }
        CHECK.close();
    }

    private static List<Method> calls() {
        return Arrays.stream(DrawnList.class.getDeclaredMethods()).filter(m -> Modifier.isPublic(m.getModifiers()))
                .sorted(Comparator.comparing(Method::getName)).toList();
    }

    /** Thirty names, 120 answers, plans of all of them, sheets of ninety items. */
    private static DrawnList full() {
        DrawnList x = Lists.full();
        for (int k = 0; k < 120; k++) {
            x.answer(k % 30, 10000 - k, k);
        }
        String[] texts = {"a30", "l8,8,7,7", "z99", "t8x99"};
        for (int p = 0; p < 4; p++) {
            Lists.plan(x, p, texts[p]);
        }
        for (int s = 0; s < 3; s++) {
            x.sheet(s, s, 90);
        }
        return x;
    }

    private static void sweep(Method m, Cases.Maker maker) throws IllegalAccessException {
        int arguments = m.getParameterCount();
        int all = arguments > 2 ? MOST_SAMPLES : (int) Math.round(Math.pow(ENDS.length, arguments));
        DrawnList x = null;
        for (int k = 0; k < all; k++) {
            if (k % SAMPLES_OF_AN_OBJECT == 0) {
                x = maker.make();
            }
            Object[] given = new Object[arguments];
            for (int a = 0; a < arguments; a++) {
                int which = arguments > 2 ? RANDOM.nextInt(ENDS.length) : a == 0 ? k % ENDS.length : k / ENDS.length;
                given[a] = ENDS[which];
            }
            one(m, x, given);
        }
    }

    private static void one(Method m, DrawnList x, Object[] given) throws IllegalAccessException {
        long before = x.digest();
        int finding = x.count(8);
        try {
            long answer = ((Number) m.invoke(x, given)).longValue();
            boolean refused = m.getReturnType() == long.class ? answer == Long.MIN_VALUE + 2 || answer == Long.MIN_VALUE + 3 : answer <= -2;
            if (refused || !DOING.contains(m.getName())) {
                CHECK.holds(m.getName() + Arrays.toString(given) + " changes nothing", x.digest() == before);
            }
            boolean found = answer <= -11 && answer >= -15;
            boolean maybeFound = m.getName().equals("get");
            CHECK.holds(m.getName() + Arrays.toString(given) + " leaves the latest finding", found || maybeFound || x.count(8) == finding);
            if (found && !maybeFound) {
                CHECK.due(m.getName() + Arrays.toString(given) + " is the latest finding", x.count(8), -10 - answer);
            }
        } catch (InvocationTargetException e) {
            CHECK.holds(m.getName() + Arrays.toString(given) + " threw " + e.getCause(), false);
        }
    }
}
