import java.lang.reflect.InvocationTargetException;
import java.lang.reflect.Method;
import java.lang.reflect.Modifier;
import java.util.ArrayList;
import java.util.Comparator;
import java.util.List;
import java.util.Random;

/** No call throws, for any arguments in any state; a refused one changes nothing but STATUS. */
public final class AnyArgumentsTest {
    private static final Check c = new Check("AnyArgumentsTest");
    private static final int[] EDGES = {Integer.MIN_VALUE, Integer.MAX_VALUE, -2, -1, 60, 61, 99, 100, 300, 301, 900, 901, 999, 1000, 9999, 10000};

    public static void main(String[] args) throws Exception {
        List<Method> calls = face();
        c.due("calls of the face", calls.size(), 52);
        for (int seed = 0; seed < 3000; seed++) {
            run(new Random(seed), calls);
        }
        c.end();
    }

    private static List<Method> face() {
        List<Method> calls = new ArrayList<>();
        for (Method m : MarginPlan.class.getDeclaredMethods()) {
            if (Modifier.isPublic(m.getModifiers())) {
                calls.add(m);
            } else {
                c.due(m.getName() + " is private", Modifier.isPrivate(m.getModifiers()), true);
            }
        }
        calls.sort(Comparator.comparing(Method::getName));
        return calls;
    }

    private static void run(Random r, List<Method> calls) throws Exception {
        MarginPlan x = new MarginPlan();
        for (int i = 0; i < 40; i++) {
            int kind = r.nextInt(12);
            if (kind == 0) {
                Naive n = new Naive(r, 8);
                if (n.text.length() <= 900) {
                    Check.book(x, n.text.toString());
                    Check.rounds(x, new NaiveRounds(r, n).text());
                }
            }
            Method m = calls.get(r.nextInt(calls.size()));
            Object[] given = arguments(r, m);
            String ahead = r.nextInt(4) == 0 ? all(x) : null;
            if (ahead != null) {
                x.many(0);
            }
            Object got = call(x, m, given);
            boolean refused = x.status() != 0 && x.status() != 10;
            if (refused && !m.getName().equals("feed")) {
                Object none = m.getReturnType() == boolean.class ? (Object) false : m.getReturnType() == long.class ? (Object) (-1L) : (Object) (-1);
                boolean hasStatus = !"status top bottom fault".contains(m.getName());
                c.due(m.getName() + " refused", !hasStatus || none.equals(got), true);
                if (ahead != null && hasStatus) {
                    c.due(m.getName() + " changed nothing", ahead.equals(all(x)), true);
                }
            }
            c.due("status", x.status() >= 0 && x.status() <= 11, true);
            c.due("bottom", x.bottom() > 0, true);
        }
    }

    private static Object call(MarginPlan x, Method m, Object[] given) throws Exception {
        try {
            return m.invoke(x, given);
        } catch (InvocationTargetException e) {
            c.due(m.getName() + java.util.Arrays.toString(given) + " threw " + e.getCause(), 1, 0);
            return null;
        }
    }

    private static Object[] arguments(Random r, Method m) {
        Class<?>[] types = m.getParameterTypes();
        Object[] given = new Object[types.length];
        for (int i = 0; i < types.length; i++) {
            if (types[i] == boolean.class) {
                given[i] = r.nextBoolean();
            } else if (types[i] == long.class) {
                given[i] = r.nextBoolean() ? r.nextInt(30) : r.nextLong();
            } else {
                int kind = r.nextInt(8);
                given[i] = kind == 0 ? EDGES[r.nextInt(EDGES.length)] : kind == 1 ? r.nextInt() : kind == 2 ? r.nextInt(100) : r.nextInt(7);
            }
        }
        return given;
    }

    /** All that can be seen without changing anything but STATUS. */
    private static String all(MarginPlan x) {
        StringBuilder s = new StringBuilder();
        s.append(x.top()).append(' ').append(x.bottom()).append(' ').append(x.fault(0)).append(' ').append(x.fault(1));
        for (int i = 0; i < 9; i++) {
            s.append(' ').append(x.many(i)).append(' ').append(x.orderAt(i)).append(' ').append(x.bestAt(i)).append(' ').append(x.lived(i));
            for (int k = 0; k < 6; k++) {
                s.append(' ').append(x.cell(i, k)).append(' ').append(x.page(i, k)).append(' ').append(x.pricks(i, k));
            }
            s.append(' ').append(x.secret(i)).append(' ').append(x.knowers(i));
        }
        s.append(' ').append(x.next());
        for (int tray = 0; tray < 4; tray++) {
            for (int i = 0; i < 60; i++) {
                s.append(' ').append(x.read(tray, i));
            }
        }
        return s.toString();
    }
}
