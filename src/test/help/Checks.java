import java.lang.reflect.InvocationTargetException;
import java.lang.reflect.Method;
import java.util.ArrayList;
import java.util.Comparator;
import java.util.List;

/** What the boundary tests share: running every named test of a class, and comparing answers. */
final class Checks {
    static final int LOWEST = Integer.MIN_VALUE;
    static final int HIGHEST = Integer.MAX_VALUE;

    /** What lies outside 0 .. 40, beside both edges and at both ends of int. */
    static final int[] OUTSIDE_0_TO_40 = {LOWEST, LOWEST + 1, -41, -1, 41, 42, 82, HIGHEST - 1, HIGHEST};

    private static final int STATES = 3;

    private static String test = "";
    private static int wrong = 0;

    interface Call {
        int on(TourBounds x);
    }

    private Checks() {
    }

    /** Runs every method without parameters, so that no test can be written and then left out. */
    static void runAll(Class<?> tests) throws IllegalAccessException {
        List<Method> named = new ArrayList<>();
        for (Method m : tests.getDeclaredMethods()) {
            if (m.getParameterCount() == 0 && m.getReturnType() == void.class && !m.isSynthetic()) {
                named.add(m);
            }
        }
        named.sort(Comparator.comparing(Method::getName));
        for (Method m : named) {
            test = m.getName();
            m.setAccessible(true);
            try {
                m.invoke(null);
            } catch (InvocationTargetException e) {
                wrong++;
                System.out.println(test + ": broke off with " + e.getCause());
            }
        }
        System.out.println(named.size() + " named tests ran, " + wrong + " answers are not as due");
        if (wrong != 0 || named.isEmpty()) {
            System.exit(1);
        }
    }

    static void due(String call, int got, int want) {
        if (got != want) {
            wrong++;
            System.out.println(test + ": " + call + " answered " + got + ", due is " + want);
        }
    }

    /** Towns that are not good for n, beside both edges and at both ends of int. */
    static int[] badTowns(int n) {
        return new int[] {LOWEST, LOWEST + 1, -n, -1, n, n + 1, 7, 8, n + 32, 1 << 16, HIGHEST - 1, HIGHEST};
    }

    static int code(int... towns) {
        int code = 0;
        for (int town : towns) {
            code = code * 7 + town;
        }
        return code;
    }

    /** The codes of all tours of n towns, rising. */
    static List<Integer> codes(int n) {
        List<Integer> codes = new ArrayList<>();
        addCodes(codes, n, 0, 1, 0);
        return codes;
    }

    private static void addCodes(List<Integer> codes, int n, int code, int seen, int length) {
        if (length == n - 1) {
            codes.add(code);
        }
        for (int town = 1; town < n; town++) {
            if ((seen >> town & 1) == 0) {
                addCodes(codes, n, code * 7 + town, seen | 1 << town, length + 1);
            }
        }
    }

    /** Whether the tour with this code goes over the road a-b. */
    static boolean uses(int n, int code, int a, int b) {
        int at = 0;
        int rest = code;
        for (int k = 0; k < n; k++) {
            int to = k < n - 1 ? rest % 7 : 0;
            rest = rest / 7;
            if (at == a && to == b || at == b && to == a) {
                return true;
            }
            at = to;
        }
        return false;
    }

    /** Uneven prices, and from three towns on marks of every kind; some tour is allowed. */
    static TourBounds busy(int n) {
        TourBounds x = new TourBounds(n);
        x.sow(7, 3);
        x.price(0, n - 1, 31);
        x.mark(0, 1, TourBounds.REQUIRED);
        if (n >= 4) {
            x.mark(1, 2, TourBounds.CLOSED);
        }
        if (n >= 5) {
            x.mark(n - 2, n - 1, TourBounds.CLOSED);
        }
        return x;
    }

    /** As busy, but every road to the last town is closed, so that no tour and no path is left. */
    static TourBounds stuck(int n) {
        TourBounds x = busy(n);
        for (int town = 0; town < n - 1; town++) {
            x.mark(town, n - 1, TourBounds.CLOSED);
        }
        return x;
    }

    static TourBounds allAt(int n, int price) {
        TourBounds x = new TourBounds(n);
        for (int b = 1; b < n; b++) {
            for (int a = 0; a < b; a++) {
                x.price(a, b, price);
            }
        }
        return x;
    }

    static TourBounds allMarked(int n, int how) {
        TourBounds x = new TourBounds(n);
        for (int b = 1; b < n; b++) {
            for (int a = 0; a < b; a++) {
                x.mark(a, b, how);
            }
        }
        return x;
    }

    /** Compares all that two objects tell of their state. Marks are read by setting and resetting. */
    static void dueSame(String after, TourBounds x, TourBounds twin) {
        int n = twin.towns();
        due(after + ", then towns()", x.towns(), n);
        due(after + ", then best()", x.best(), twin.best());
        due(after + ", then bestCode()", x.bestCode(), twin.bestCode());
        due(after + ", then bestTours()", x.bestTours(), twin.bestTours());
        due(after + ", then allowed()", x.allowed(), twin.allowed());
        due(after + ", then within(99)", x.within(99), twin.within(99));
        due(after + ", then bestPath()", x.bestPath(), twin.bestPath());
        due(after + ", then path(0, 1)", x.path(0, 1), twin.path(0, 1));
        due(after + ", then span()", x.span(), twin.span());
        due(after + ", then worth(0, 1)", x.worth(0, 1), twin.worth(0, 1));
        for (int a = 0; a < n; a++) {
            for (int b = 0; b < n; b++) {
                String pair = "(" + a + ", " + b + ")";
                due(after + ", then priceOf" + pair, x.priceOf(a, b), twin.priceOf(a, b));
                if (a < b) {
                    due(after + ", then the mark of " + pair, markOf(x, a, b), markOf(twin, a, b));
                }
            }
        }
    }

    static int markOf(TourBounds x, int a, int b) {
        int how = x.mark(a, b, TourBounds.OPEN);
        x.mark(a, b, how);
        return how;
    }

    /** The call changes nothing: not in a new object, nor with marks, nor where no tour is left. */
    static void dueNoChange(String name, int n, Call call) {
        for (int state = 0; state < STATES; state++) {
            TourBounds x = inState(state, n);
            call.on(x);
            dueSame(stateName(state, n) + name, x, inState(state, n));
        }
    }

    /** The call is answered so, whatever the state, and changes nothing. */
    static void dueRefused(String name, int n, Call call, int want) {
        for (int state = 0; state < STATES; state++) {
            TourBounds x = inState(state, n);
            due(stateName(state, n) + name, call.on(x), want);
            dueSame(stateName(state, n) + name, x, inState(state, n));
        }
    }

    private static TourBounds inState(int state, int n) {
        return state == 0 ? new TourBounds(n) : state == 1 ? busy(n) : stuck(n);
    }

    private static String stateName(int state, int n) {
        return (state == 0 ? "new" : state == 1 ? "busy" : "stuck") + ", n = " + n + ": ";
    }
}
