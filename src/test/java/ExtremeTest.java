import java.lang.reflect.InvocationTargetException;
import java.lang.reflect.Method;
import java.lang.reflect.Modifier;
import java.util.ArrayList;
import java.util.Comparator;
import java.util.List;

/** Rule 7 of LANGUAGE.md: no call may ever throw or fail to end, for any arguments in any state. */
public final class ExtremeTest {
    private static final int[] NUMBERS = {Integer.MIN_VALUE, Integer.MIN_VALUE + 1, -1001, -65, -10, -4, -1, 0, 1, 2, 3, 9, 10, 11, 12, 13, 20, 44,
        64, 99, 100, 101, 162, 163, 214748365, 429496730, 1 << 30, Integer.MAX_VALUE - 1, Integer.MAX_VALUE};
    private static final int[] FEW = {Integer.MIN_VALUE, -1, 0, 1, 0x20202020, Integer.MAX_VALUE};
    private static final String TWELVE = "a(-1,0)+a(-2,0)+a(-3,0)+a(-1,1)+a(-1,2)+a(-1,3)+a(-1,-1)+a(-1,-2)+a(-1,-3)+a(-2,1)+a(-2,2)+a(-2,3)";
    private static final String[] TEXTS = {"", "size 1 1;", Bounds.SUMS, Bounds.ROUND, Bounds.LONE, Bounds.CORNER, "size 10 10; fire 0 0; onto 0 1;",
        "size 10 10; let a = " + TWELVE + " + 1 edge i * j; fire 9 1; onto 3 -2;",
        "size 10 10; let a = " + TWELVE + "+1".repeat(20) + "; let b = ((((1)))) edge 1; let c = 1; fire -9 9; onto -3 2;",
        "size 10 1; let a = a(3,0) + a(-3,0); onto 1 0;", "size 1 10; let a = 999*999*999*999 - a(0,-1); fire 0 -9;"};

    private ExtremeTest() {
    }

    public static void main(String[] args) throws Exception {
        List<Method> face = new ArrayList<>();
        for (Method m : PulseGrid.class.getDeclaredMethods()) {
            if (Modifier.isPublic(m.getModifiers())) {
                face.add(m);
            }
        }
        face.sort(Comparator.comparing(Method::getName));
        for (int state = 0; state < TEXTS.length; state++) {
            for (Method m : face) {
                tryAll(m, state);
            }
        }
        Check.finish("ExtremeTest");
    }

    private static PulseGrid grid(int state) {
        PulseGrid g = Bounds.grid(TEXTS[state]);
        if (state % 3 == 1) {
            g.broken(0, true);
            g.workers(12);
            g.image(0);
            g.undo();
        }
        if (state % 3 == 2) {
            for (int k = 0; k < 25; k++) {
                g.broken(g.plan(2) - 1, k % 2 == 0);
            }
            Check.write(g, "(".repeat(799));
        }
        return g;
    }

    private static void tryAll(Method m, int state) throws Exception {
        Class<?>[] types = m.getParameterTypes();
        int[] numbers = types.length > 3 ? FEW : NUMBERS;
        long all = 1;
        for (Class<?> type : types) {
            all *= type == boolean.class ? 2 : numbers.length;
        }
        // Three numbers and more have too many combinations to try them all.
        int step = types.length > 2 ? 7 : 1;
        PulseGrid g = grid(state);
        for (long k = 0; k < all; k += step) {
            Object[] args = new Object[types.length];
            long rest = k;
            for (int n = 0; n < args.length; n++) {
                int kinds = types[n] == boolean.class ? 2 : numbers.length;
                int pick = (int) (rest % kinds);
                args[n] = types[n] == boolean.class ? (Object) (pick == 1) : (Object) numbers[pick];
                rest /= kinds;
            }
            endsWell(m, g, args, state);
            if (k % 400 == 399) {
                g = grid(state);
            }
        }
    }

    private static void endsWell(Method m, PulseGrid g, Object[] args, int state) throws Exception {
        String thrown = "";
        try {
            m.invoke(g, args);
        } catch (InvocationTargetException e) {
            thrown = ": " + e.getCause();
        }
        String call = thrown.isEmpty() ? m.getName() : m.getName() + java.util.Arrays.toString(args) + " in state " + state + thrown;
        Check.due(call + ", thrown", !thrown.isEmpty(), false);
    }
}
