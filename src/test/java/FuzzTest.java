import java.lang.reflect.InvocationTargetException;
import java.lang.reflect.Method;
import java.util.ArrayList;
import java.util.Arrays;
import java.util.Comparator;
import java.util.List;
import java.util.Random;

/** Runs of calls drawn by fixed seeds: PulseGrid must answer each as Model does, and never throw. */
public final class FuzzTest {
    private static final int RUNS = 700;
    private static final List<String> ACTS = List.of("fire", "onto", "workers", "broken", "undo", "redo", "image", "back");
    private static final List<String> DEAR = List.of("pair", "best", "tiling", "line", "law", "total");

    private final Random random;
    private final PulseGrid grid = new PulseGrid();
    private final Model model = new Model();
    private final List<String> log = new ArrayList<>();
    private final int seed;

    private FuzzTest(int seed) {
        this.seed = seed;
        random = new Random(seed);
    }

    public static void main(String[] args) throws Exception {
        int from = args.length > 0 ? Integer.parseInt(args[0]) : 0;
        int to = args.length > 1 ? Integer.parseInt(args[1]) : RUNS;
        for (int seed = from; seed < to && !Check.hasFailed(); seed++) {
            new FuzzTest(seed).go();
        }
        Check.finish("FuzzTest");
    }

    private static List<Method> face() {
        List<Method> all = new ArrayList<>();
        for (Method m : PulseGrid.class.getDeclaredMethods()) {
            if (java.lang.reflect.Modifier.isPublic(m.getModifiers())) {
                all.add(m);
            }
        }
        all.sort(Comparator.comparing(Method::getName));
        return all;
    }

    private int upTo(int most) {
        return random.nextInt(most + 1);
    }

    private void go() throws Exception {
        List<Method> face = face();
        for (int round = 0; round < 2; round++) {
            say(random.nextInt(3) == 0 ? spoilt(text()) : text());
            for (int k = 0; k < 60; k++) {
                Method m = face.get(random.nextInt(face.size()));
                if (m.getName().equals("loop") || m.getName().equals("feed") || m.getName().equals("end")) {
                    continue;
                }
                if (DEAR.contains(m.getName()) && random.nextInt(3) > 0) {
                    m = named(face, ACTS.get(random.nextInt(ACTS.size())));
                }
                call(m);
            }
        }
        for (int k = 0; k < 60; k++) {
            String name = random.nextInt(4) == 0 ? "about" : ACTS.get(random.nextInt(ACTS.size()));
            call(named(face, name));
        }
    }

    private static Method named(List<Method> face, String name) {
        for (Method m : face) {
            if (m.getName().equals(name)) {
                return m;
            }
        }
        throw new IllegalStateException(name);
    }

    private void call(Method m) throws Exception {
        Object[] args = new Object[m.getParameterCount()];
        for (int k = 0; k < args.length; k++) {
            args[k] = m.getParameterTypes()[k] == boolean.class ? (Object) random.nextBoolean() : (Object) number(m.getName());
        }
        both(m, args);
    }

    private int number(String name) {
        int kind = random.nextInt(40);
        if (kind == 0) {
            return new int[] {Integer.MIN_VALUE, Integer.MAX_VALUE, -1000, 1000, -2, 101, 800, 64}[random.nextInt(8)];
        }
        switch (name) {
            case "fire":
                return kind < 20 ? upTo(2) - 1 : upTo(20) - 10;
            case "onto":
                return upTo(6) - 3;
            case "tiling":
                return kind < 30 ? upTo(4) : upTo(102);
            case "point": case "wave": case "flow":
                return kind < 30 ? upTo(6) : upTo(50) - 1;
            case "about":
                return upTo(16) - 1;
            case "fewest":
                return upTo(40);
            default:
                return kind < 32 ? upTo(4) : upTo(14) - 2;
        }
    }

    private void both(Method m, Object... args) throws Exception {
        String call = m.getName() + Arrays.toString(args);
        log.add(call);
        long want = answer(Model.class.getMethod(m.getName(), m.getParameterTypes()), model, args);
        long got;
        try {
            got = answer(m, grid, args);
        } catch (InvocationTargetException e) {
            System.out.println("thrown: " + e.getCause());
            got = Long.MIN_VALUE;
        }
        boolean before = Check.hasFailed();
        Check.due("seed " + seed + ": " + call, got, want);
        if (!before && Check.hasFailed()) {
            System.out.println(String.join("\n", log));
        }
    }

    private static long answer(Method m, Object on, Object[] args) throws Exception {
        Object got = m.invoke(on, args);
        return got instanceof Boolean b ? (b ? 1 : 0) : (Integer) got;
    }

    private void say(String text) throws Exception {
        log.add("text: " + text);
        List<Method> face = face();
        String padded = text + " ".repeat((20 - text.length() % 20) % 20);
        for (int k = 0; k < padded.length(); k += 20) {
            Object[] five = new Object[5];
            for (int w = 0; w < 5; w++) {
                int n = 0;
                for (int b = 0; b < 4; b++) {
                    n = n << 8 | padded.charAt(k + 4 * w + b) & 255;
                }
                five[w] = n;
            }
            both(named(face, "feed"), five);
        }
        both(named(face, "end"), text.length());
        both(named(face, "loop"));
        both(named(face, "fault"), 0);
        both(named(face, "fault"), 1);
        for (int k = 0; k <= 15; k++) {
            both(named(face, "about"), k);
        }
    }

    private String text() {
        StringBuilder out = new StringBuilder();
        boolean small = random.nextInt(3) > 0;
        out.append("size ").append(1 + upTo(small ? 4 : 9)).append(' ').append(1 + upTo(small ? 4 : 9)).append(';');
        int shape = random.nextInt(4);
        int lets = random.nextInt(12) == 0 ? 4 : 1 + random.nextInt(3);
        String names = "xyab";
        for (int v = 0; v < lets; v++) {
            out.append(" let ").append(names.charAt(v)).append(" = ");
            formula(out, v, shape, random.nextInt(20) == 0 ? 12 : 1 + random.nextInt(4), 0);
            if (random.nextBoolean()) {
                out.append(" edge ");
                formula(out, -1, shape, 1 + random.nextInt(3), 0);
            }
            out.append(";\n");
        }
        if (random.nextBoolean()) {
            out.append(" fire ").append(upTo(8) - 4).append(' ').append(upTo(8) - 4).append(';');
        }
        if (random.nextBoolean()) {
            String[] lines = {"1 0", "0 1", "1 1", "-1 1", "2 -1", "3 2", "0 -1", "-3 1", "-0 1", "2 2", "0 2"};
            out.append("onto ").append(lines[random.nextInt(lines.length)]).append(';');
        }
        return out.substring(0, Math.min(out.length(), 800));
    }

    private void formula(StringBuilder out, int v, int shape, int units, int within) {
        for (int k = 0; k < units; k++) {
            if (k > 0) {
                out.append(new String[] {"+", " - ", "*", "<", " > "}[random.nextInt(5)]);
            }
            unit(out, v, shape, within);
        }
    }

    private void unit(StringBuilder out, int v, int shape, int within) {
        int kind = random.nextInt(12);
        if (kind < 2) {
            out.append(random.nextInt(30) == 0 ? 999 + random.nextInt(2) : upTo(9));
        } else if (kind < 4) {
            out.append(random.nextBoolean() ? 'i' : 'j');
        } else if (kind == 4 && within < 5) {
            out.append('-');
            unit(out, v, shape, within + 1);
        } else if (kind == 5 && within < 5) {
            out.append('(');
            formula(out, v, shape, 1 + random.nextInt(2), within + 1);
            out.append(')');
        } else if (v >= 0) {
            read(out, v, shape);
        } else {
            out.append(upTo(30));
        }
    }

    // Shapes: reads that lead back alone, back by far, a little anyhow, or by one axis.
    private void read(StringBuilder out, int v, int shape) {
        int w = random.nextInt(v + 1);
        int a = 0;
        int b = 0;
        if (shape == 0) {
            a = -upTo(1);
            b = -upTo(1);
        } else if (shape == 1) {
            a = -upTo(3);
            b = a == 0 ? -upTo(3) : upTo(6) - 3;
        } else if (shape == 2) {
            a = upTo(4) - 2;
            b = upTo(4) - 2;
        } else {
            a = upTo(4) - 3;
        }
        if (a == 0 && b == 0 && w == v && random.nextInt(20) > 0) {
            a = -1;
        }
        out.append("xyab".charAt(w)).append('(').append(a).append(',').append(b).append(')');
    }

    private String spoilt(String text) {
        StringBuilder out = new StringBuilder(text);
        int hits = 1 + random.nextInt(2);
        String signs = ";=(),+-*<> \n09ijxylet$\u00e9A\0";
        for (int k = 0; k < hits && out.length() > 0; k++) {
            int at = random.nextInt(out.length());
            switch (random.nextInt(3)) {
                case 0:
                    out.setCharAt(at, signs.charAt(random.nextInt(signs.length())));
                    break;
                case 1:
                    out.deleteCharAt(at);
                    break;
                default:
                    out.insert(at, random.nextInt(4) > 0 ? "" + signs.charAt(random.nextInt(signs.length()))
                            : new String[] {"fire 1 1;", "size 1 1;", "onto 1 0;", "edge 1", "((((", "----", "1000"}[random.nextInt(7)]);
                    break;
            }
        }
        return random.nextInt(10) == 0 ? out.substring(0, random.nextInt(out.length() + 1)) : out.substring(0, Math.min(800, out.length()));
    }
}
