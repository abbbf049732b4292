import java.lang.reflect.Method;
import java.util.ArrayList;
import java.util.List;

/** No call may ever throw, for any numbers in any state: every call with extreme numbers, compared with Oracle. */
public final class ExtremesTest {
    private static final int LEAST = Integer.MIN_VALUE, MOST = Integer.MAX_VALUE;
    private static final int CALLS = 500;
    /** The more numbers a call has, the fewer are tried for each. */
    private static final int[][] TRIED = {
        {},
        {LEAST, LEAST + 1, -2000000000, -65536, -129, -128, -101, -100, -12, -11, -10, -9, -8, -3, -2, -1, 0, 1, 2, 3, 4, 5, 6, 7, 8,
            9, 10, 11, 12, 20, 21, 23, 24, 25, 49, 50, 59, 60, 61, 70, 76, 77, 78, 80, 99, 100, 119, 120, 121, 127, 128, 255, 256,
            65535, 65536, 2000000000, MOST - 1, MOST},
        {LEAST, LEAST + 1, -100, -11, -2, -1, 0, 1, 2, 3, 4, 7, 8, 9, 10, 20, 21, 60, 61, 77, 99, 100, MOST - 3, MOST},
        {LEAST, -100, -2, -1, 0, 1, 3, 7, 8, 9, 60, 61, 100, 320, 10112, MOST},
        {LEAST, -1, 0, 1, 3, 5, 8, MOST},
        {LEAST, -1, 0, 1, 4, MOST}};
    private static final int NONE = 0, SOME = 1, ALL = 2;

    private final int state;
    private BeggarBridge real;
    private Oracle oracle;
    private int calls;

    private ExtremesTest(int state) {
        this.state = state;
    }

    public static void main(String[] args) throws Exception {
        for (int state = NONE; state <= ALL; state++) {
            ExtremesTest test = new ExtremesTest(state);
            for (Method m : BeggarBridge.class.getDeclaredMethods()) {
                if (java.lang.reflect.Modifier.isPublic(m.getModifiers())) {
                    test.tryAll(m);
                }
            }
        }
        callsBehindTheLast();
        Due.end();
    }

    /** What an object answers behind its 512th call is free, but rule 7 of LANGUAGE.md holds: no call ever throws. */
    private static void callsBehindTheLast() throws Exception {
        Method[] methods = BeggarBridge.class.getDeclaredMethods();
        java.util.Arrays.sort(methods, java.util.Comparator.comparing(Method::getName));
        java.util.Random random = new java.util.Random(1);
        BeggarBridge x = new BeggarBridge();
        for (int n = 0; n < 30000; n++) {
            Method m = methods[random.nextInt(methods.length)];
            if (java.lang.reflect.Modifier.isPublic(m.getModifiers())) {
                Object[] given = new Object[m.getParameterCount()];
                for (int i = 0; i < given.length; i++) {
                    int v = random.nextInt(4) == 0 ? random.nextInt(200) - 20 : random.nextInt(10);
                    given[i] = m.getParameterTypes()[i] == long.class ? (Object) (long) v : (Object) v;
                }
                try {
                    m.invoke(x, given);
                } catch (java.lang.reflect.InvocationTargetException e) {
                    Due.isTrue(m.getName() + java.util.Arrays.toString(given) + ", call " + n + ", throws "
                            + e.getCause(), false);
                }
            }
        }
    }

    private void begin() throws Exception {
        real = new BeggarBridge();
        oracle = new Oracle();
        calls = 0;
        if (state != NONE) {
            int bridges = state == ALL ? 8 : 3;
            int beggars = state == ALL ? 9 : 2;
            for (int k = 0; k < bridges; k++) {
                call("bridge", 10 * k + (k + 1) % bridges, 9 - k);
                call("mend", k, 1, 99 - 13 * k);
            }
            for (int b = 0; b < beggars; b++) {
                call("beggar", b, 9 - b);
                call("sits", b, b % (bridges + 1) - 1);
                call("mend", b, 3, 7 * b);
            }
            for (int n = 0; n < (state == ALL ? 50 : 2); n++) {
                call("body", 7 - n % 8);
            }
            for (int sort = 0; sort < 5; sort++) {
                call("row", sort, sort, state == ALL ? 60 : sort);
            }
            call("keep", 5, 1);
            call("put", 3, 1, Long.MIN_VALUE);
        }
        if (state == ALL) {
            for (int i = 0; i < 120; i++) {
                call("feed", i % 2 == 0 ? (int) 's' : (int) '+');
            }
            for (int i = 0; i < 41; i++) {
                call("mend", i % 8, 0, 1 + i / 8);
            }
            call("image");
        }
    }

    private void tryAll(Method m) throws Exception {
        int width = m.getParameterCount();
        boolean isDear = state == ALL && (m.getName().equals("byTurns") || m.getName().equals("moved"));
        int[] tried = TRIED[Math.min(isDear ? 4 : width, TRIED.length - 1)];
        int all = 1;
        for (int i = 0; i < width; i++) {
            all *= tried.length;
        }
        begin();
        for (int n = 0; n < all; n++) {
            if (calls >= CALLS) {
                begin();
            }
            List<Object> given = new ArrayList<>();
            for (int i = 0, rest = n; i < width; i++, rest /= tried.length) {
                int v = tried[rest % tried.length];
                if (m.getParameterTypes()[i] == long.class) {
                    given.add(v == LEAST ? Long.MIN_VALUE : v == MOST ? Long.MAX_VALUE : v);
                } else {
                    given.add(v);
                }
            }
            call(m.getName(), given.toArray());
        }
    }

    private void call(String name, Object... given) throws Exception {
        Class<?>[] types = new Class<?>[given.length];
        for (int i = 0; i < given.length; i++) {
            types[i] = given[i] instanceof Long ? long.class : int.class;
        }
        calls++;
        String told = name + java.util.Arrays.toString(given) + " in state " + state;
        try {
            long got = ((Number) BeggarBridge.class.getDeclaredMethod(name, types).invoke(real, given)).longValue();
            long want = ((Number) Oracle.class.getDeclaredMethod(name, types).invoke(oracle, given)).longValue();
            Due.is(told, got, want);
        } catch (java.lang.reflect.InvocationTargetException e) {
            Due.isTrue(told + " throws " + e.getCause(), false);
        }
    }
}
