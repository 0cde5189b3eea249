import java.util.ArrayDeque;
import java.util.ArrayList;
import java.util.Arrays;
import java.util.Deque;
import java.util.HashSet;
import java.util.List;
import java.util.Set;
import java.util.TreeSet;

/**
 * The document's words put down as plainly as can be, without care for speed or room: what PulseGrid is held against.
 * It has the same methods, so that FuzzTest can call both by name.
 */
public final class Model {
    private static final int NONE = -1;
    private static final int REFUSED = -1000;
    private static final Set<String> NO_NAMES = Set.of("size", "let", "fire", "onto", "edge", "i", "j");

    /** A fault of a text. */
    private static final class Fault extends Exception {
        private static final long serialVersionUID = 1L;
        final int kind;
        final int place;

        Fault(int kind, int place) {
            this.kind = kind;
            this.place = place;
        }
    }

    private record Token(String text, int place) { }

    /** Where a formula's reads get what they read. */
    private interface Source {
        int read(int variable, int i, int j, boolean same);
    }

    private interface Formula {
        int at(int i, int j, Source source);
    }

    private record Read(int variable, int a, int b) { }

    private record Point(int i, int j) { }

    private static final class Program {
        int rows = 1;
        int columns = 1;
        int p = 1;
        int q = 1;
        int a = 1;
        int b = 0;
        int units;
        final List<String> names = new ArrayList<>();
        final List<Formula> formulas = new ArrayList<>();
        final List<Formula> edges = new ArrayList<>();
        final List<Read> reads = new ArrayList<>();
        final List<Point> offsets = new ArrayList<>();
    }

    private record State(int p, int q, int a, int b, int workers, TreeSet<Integer> broken) { }

    private static final class Reader {
        final String text;
        final List<Token> tokens = new ArrayList<>();
        final Program program = new Program();
        int at;
        boolean edge;

        Reader(String text) {
            this.text = text;
            int k = 0;
            while (k < text.length()) {
                char c = text.charAt(k);
                int from = k++;
                if (c == ' ' || c == '\n') {
                    continue;
                }
                if (c >= 'a' && c <= 'z') {
                    while (k < text.length() && text.charAt(k) >= 'a' && text.charAt(k) <= 'z') {
                        k++;
                    }
                } else if (c >= '0' && c <= '9') {
                    while (k < text.length() && text.charAt(k) >= '0' && text.charAt(k) <= '9') {
                        k++;
                    }
                }
                tokens.add(new Token(text.substring(from, k), from));
            }
            tokens.add(new Token("", text.length()));
        }

        Token token() {
            return tokens.get(at);
        }

        boolean sees(String what) {
            return token().text.equals(what);
        }

        Fault fault(int kind) {
            return new Fault(kind, token().place);
        }

        void expect(String what) throws Fault {
            if (!sees(what)) {
                throw fault(1);
            }
            at++;
        }

        boolean seesNumber() {
            return token().text.matches("[0-9]+");
        }

        boolean seesName() {
            return token().text.matches("[a-z]+") && !NO_NAMES.contains(token().text);
        }

        long number() throws Fault {
            if (!seesNumber()) {
                throw fault(1);
            }
            return new java.math.BigInteger(token().text).min(java.math.BigInteger.valueOf(1000000)).longValue();
        }

        int unsigned(int least, int most) throws Fault {
            long n = number();
            if (n < least || n > most) {
                throw fault(2);
            }
            at++;
            return (int) n;
        }

        int signed(int most) throws Fault {
            boolean minus = sees("-");
            if (minus) {
                at++;
            }
            int n = unsigned(0, most);
            return minus ? -n : n;
        }

        Program program() throws Fault {
            if (sees("") && token().place == text.length()) {
                return program;
            }
            expect("size");
            program.rows = unsigned(1, 10);
            program.columns = unsigned(1, 10);
            expect(";");
            Set<String> told = new HashSet<>();
            while (!sees("")) {
                if (sees("let")) {
                    let();
                } else if ((sees("fire") || sees("onto")) && told.add(token().text)) {
                    layout();
                } else {
                    throw fault(1);
                }
                expect(";");
            }
            return program;
        }

        void layout() throws Fault {
            if (sees("fire")) {
                at++;
                program.p = signed(9);
                program.q = signed(9);
                return;
            }
            at++;
            program.a = signed(3);
            program.b = signed(3);
            if (!lines(program.a, program.b)) {
                at--;
                throw fault(2);
            }
        }

        void let() throws Fault {
            if (program.names.size() == 3) {
                throw fault(4);
            }
            at++;
            if (!seesName()) {
                throw fault(1);
            }
            if (program.names.contains(token().text)) {
                throw fault(3);
            }
            program.names.add(token().text);
            at++;
            expect("=");
            program.formulas.add(e(0));
            Formula outer = (i, j, s) -> 0;
            if (sees("edge")) {
                at++;
                edge = true;
                outer = e(0);
                edge = false;
            }
            program.edges.add(outer);
        }

        Formula e(int within) throws Fault {
            Formula all = sum(within);
            while (sees("<") || sees(">")) {
                boolean less = sees("<");
                at++;
                Formula x = all;
                Formula y = sum(within);
                all = (i, j, s) -> less ? Math.min(x.at(i, j, s), y.at(i, j, s)) : Math.max(x.at(i, j, s), y.at(i, j, s));
            }
            return all;
        }

        Formula sum(int within) throws Fault {
            Formula all = term(within);
            while (sees("+") || sees("-")) {
                int sign = sees("+") ? 1 : -1;
                at++;
                Formula x = all;
                Formula y = term(within);
                all = (i, j, s) -> x.at(i, j, s) + sign * y.at(i, j, s);
            }
            return all;
        }

        Formula term(int within) throws Fault {
            Formula all = unit(within);
            while (sees("*")) {
                at++;
                Formula x = all;
                Formula y = unit(within);
                all = (i, j, s) -> x.at(i, j, s) * y.at(i, j, s);
            }
            return all;
        }

        Formula unit(int within) throws Fault {
            TreeSet<Integer> faults = new TreeSet<>();
            boolean starts = seesNumber() || seesName() || sees("i") || sees("j") || sees("(") || sees("-");
            if (!starts) {
                faults.add(1);
            }
            if (seesNumber() && number() > 999) {
                faults.add(2);
            }
            if (seesName() && (edge || !program.names.contains(token().text))) {
                faults.add(3);
            }
            if (program.units == 40 || within == 5 || seesName() && program.reads.size() == 12) {
                faults.add(4);
            }
            if (!faults.isEmpty()) {
                throw fault(faults.first());
            }
            program.units++;
            if (seesNumber()) {
                int n = (int) number();
                at++;
                return (i, j, s) -> n;
            }
            if (seesName()) {
                return read();
            }
            String sign = token().text;
            at++;
            switch (sign) {
                case "i":
                    return (i, j, s) -> i;
                case "j":
                    return (i, j, s) -> j;
                case "-":
                    Formula x = unit(within + 1);
                    return (i, j, s) -> -x.at(i, j, s);
                default:
                    Formula y = e(within + 1);
                    expect(")");
                    return y;
            }
        }

        Formula read() throws Fault {
            int variable = program.names.indexOf(token().text);
            at++;
            expect("(");
            int a = signed(3);
            expect(",");
            int b = signed(3);
            if (a == 0 && b == 0 && variable == program.names.size() - 1) {
                at--;
                throw fault(2);
            }
            expect(")");
            program.reads.add(new Read(variable, a, b));
            Point step = new Point(a, b);
            if (!step.equals(new Point(0, 0)) && !program.offsets.contains(step)) {
                program.offsets.add(step);
            }
            return (i, j, s) -> s.read(variable, i + a, j + b, a == 0 && b == 0);
        }
    }

    private static boolean lines(int a, int b) {
        if (a < -3 || a > 3 || b < -3 || b > 3 || a == 0 && b == 0) {
            return false;
        }
        for (int d = 2; d <= 3; d++) {
            if (a % d == 0 && b % d == 0) {
                return false;
            }
        }
        return true;
    }

    private final StringBuilder tape = new StringBuilder();
    private int fault;
    private int faultPlace = NONE;
    private Program program = new Program();
    private State now = new State(1, 1, 1, 0, 1, new TreeSet<>());
    private final Deque<State> done = new ArrayDeque<>();
    private final Deque<State> undone = new ArrayDeque<>();
    private final State[] boxes = new State[2];
    private List<Point> points;
    private boolean[][] reach;

    public Model() {
        reset();
    }

    private void reset() {
        points = new ArrayList<>();
        for (int i = 0; i < program.rows; i++) {
            for (int j = 0; j < program.columns; j++) {
                points.add(new Point(i, j));
            }
        }
        int n = points.size();
        reach = new boolean[n][n];
        for (int x = 0; x < n; x++) {
            for (int y = 0; y < n; y++) {
                reach[x][y] = reads(points.get(x), points.get(y));
            }
        }
        for (int m = 0; m < n; m++) {
            for (int x = 0; x < n; x++) {
                for (int y = 0; y < n; y++) {
                    reach[x][y] |= reach[x][m] && reach[m][y];
                }
            }
        }
    }

    private boolean reads(Point x, Point y) {
        return program.offsets.contains(new Point(y.i - x.i, y.j - x.j));
    }

    private boolean inside(int i, int j) {
        return points.contains(new Point(i, j));
    }

    private int index(Point x) {
        return points.indexOf(x);
    }

    private boolean isOrdered(Point x) {
        int me = index(x);
        if (reach[me][me]) {
            return false;
        }
        for (int y = 0; y < points.size(); y++) {
            if (reach[me][y] && reach[y][y]) {
                return false;
            }
        }
        return true;
    }

    private int depthOf(Point x, Integer[] memo) {
        int me = index(x);
        if (memo[me] == null) {
            int most = -1;
            for (Point y : points) {
                if (reads(x, y)) {
                    most = Math.max(most, depthOf(y, memo));
                }
            }
            memo[me] = most + 1;
        }
        return memo[me];
    }

    private int heightOf(Point x, Integer[] memo) {
        int me = index(x);
        if (memo[me] == null) {
            int most = -1;
            for (Point y : points) {
                if (reads(y, x)) {
                    most = Math.max(most, heightOf(y, memo));
                }
            }
            memo[me] = most + 1;
        }
        return memo[me];
    }

    private boolean hasHeight(Point x) {
        if (!isOrdered(x)) {
            return false;
        }
        for (Point y : points) {
            if (reach[index(y)][index(x)] && !isOrdered(y)) {
                return false;
            }
        }
        return true;
    }

    /** Values of all ordered points, null elsewhere; one of them may be 1 more than reckoned. */
    private Integer[][] values(int stirVariable, Point stirPoint) {
        Integer[][] all = new Integer[program.names.size()][points.size()];
        for (Point x : points) {
            if (isOrdered(x)) {
                for (int v = 0; v < program.names.size(); v++) {
                    valueOf(v, x, all, stirVariable, stirPoint);
                }
            }
        }
        return all;
    }

    private int valueOf(int v, Point x, Integer[][] all, int stirVariable, Point stirPoint) {
        int me = index(x);
        if (all[v][me] == null) {
            int got = program.formulas.get(v).at(x.i, x.j, (w, i, j, same) -> inside(i, j)
                    ? valueOf(w, new Point(i, j), all, stirVariable, stirPoint)
                    : program.edges.get(w).at(i, j, null));
            all[v][me] = got + (v == stirVariable && x.equals(stirPoint) ? 1 : 0);
        }
        return all[v][me];
    }

    private int tickOf(Point x, int p, int q) {
        int least = Integer.MAX_VALUE;
        for (Point y : points) {
            least = Math.min(least, p * y.i + q * y.j);
        }
        return p * x.i + q * x.j - least;
    }

    private int latencyOf(int p, int q) {
        int most = 0;
        for (Point x : points) {
            most = Math.max(most, tickOf(x, p, q));
        }
        return most + 1;
    }

    private TreeSet<Integer> keys(int a, int b) {
        TreeSet<Integer> keys = new TreeSet<>();
        for (Point x : points) {
            keys.add(b * x.i - a * x.j);
        }
        return keys;
    }

    private int cellOf(Point x, int a, int b) {
        return keys(a, b).headSet(b * x.i - a * x.j).size();
    }

    private int myTick(Point x) {
        return tickOf(x, now.p, now.q);
    }

    private int myCell(Point x) {
        return cellOf(x, now.a, now.b);
    }

    private boolean isClash(Point x, int p, int q, int a, int b) {
        for (Point y : points) {
            if (y.equals(x)) {
                return false;
            }
            if (p * y.i + q * y.j == p * x.i + q * x.j && b * y.i - a * y.j == b * x.i - a * x.j) {
                return true;
            }
        }
        return false;
    }

    private boolean isClash(Point x) {
        return isClash(x, now.p, now.q, now.a, now.b);
    }

    private int clashes(int p, int q, int a, int b) {
        int all = 0;
        for (Point x : points) {
            all += isClash(x, p, q, a, b) ? 1 : 0;
        }
        return all;
    }

    private boolean lawful(int p, int q) {
        for (Point o : program.offsets) {
            if (p * o.i + q * o.j >= 0) {
                return false;
            }
        }
        return true;
    }

    private int[][] runWith(Set<Integer> broken) {
        int[][] out = new int[program.names.size()][points.size()];
        boolean[] earlier = new boolean[points.size()];
        for (int t = 0; t < latencyOf(now.p, now.q); t++) {
            List<Integer> atOnce = new ArrayList<>();
            for (Point x : points) {
                if (myTick(x) != t) {
                    continue;
                }
                atOnce.add(index(x));
                if (isClash(x) || broken.contains(myCell(x))) {
                    continue;
                }
                for (int v = 0; v < program.names.size(); v++) {
                    out[v][index(x)] = program.formulas.get(v).at(x.i, x.j, (w, i, j, same) -> {
                        if (!inside(i, j)) {
                            return program.edges.get(w).at(i, j, null);
                        }
                        int there = index(new Point(i, j));
                        return same || earlier[there] ? out[w][there] : 0;
                    });
                }
            }
            for (int x : atOnce) {
                earlier[x] = true;
            }
        }
        return out;
    }

    private List<Point> wrongOf(int[][] run) {
        Integer[][] values = values(NONE, null);
        List<Point> all = new ArrayList<>();
        for (Point x : points) {
            boolean wrong = false;
            for (int v = 0; v < program.names.size() && isOrdered(x); v++) {
                wrong |= values[v][index(x)] != run[v][index(x)];
            }
            if (wrong) {
                all.add(x);
            }
        }
        return all;
    }

    private boolean isVariable(int v) {
        return v >= 0 && v < program.names.size();
    }

    private boolean isCell(int c) {
        return c >= 0 && c < keys(now.a, now.b).size();
    }

    private void act(State next) {
        done.addLast(now);
        if (done.size() > 20) {
            done.removeFirst();
        }
        undone.clear();
        now = next;
    }

    public int feed(int a, int b, int c, int d, int e) {
        if (tape.length() + 20 > 800) {
            return NONE;
        }
        for (int n : new int[] {a, b, c, d, e}) {
            tape.append((char) (n >>> 24 & 255)).append((char) (n >>> 16 & 255));
            tape.append((char) (n >>> 8 & 255)).append((char) (n & 255));
        }
        return tape.length();
    }

    public int end(int n) {
        if (n < 0 || n > tape.length()) {
            return NONE;
        }
        tape.setLength(n);
        return n;
    }

    public int loop() {
        String text = tape.toString();
        tape.setLength(0);
        try {
            program = new Reader(text).program();
        } catch (Fault f) {
            fault = f.kind;
            faultPlace = f.place;
            return NONE;
        }
        fault = 0;
        faultPlace = NONE;
        now = new State(program.p, program.q, program.a, program.b, 1, new TreeSet<>());
        done.clear();
        undone.clear();
        Arrays.fill(boxes, null);
        reset();
        return program.names.size();
    }

    public int fault(int what) {
        return what == 0 ? fault : what == 1 ? faultPlace : NONE;
    }

    public int fire(int p, int q) {
        if (p < -9 || p > 9 || q < -9 || q > 9) {
            return NONE;
        }
        act(new State(p, q, now.a, now.b, now.workers, now.broken));
        return lawful(p, q) ? 1 : 0;
    }

    public int onto(int a, int b) {
        if (!lines(a, b)) {
            return NONE;
        }
        act(new State(now.p, now.q, a, b, now.workers, new TreeSet<>()));
        return keys(a, b).size();
    }

    public int workers(int n) {
        if (n < 1 || n > 12) {
            return NONE;
        }
        int before = now.workers;
        act(new State(now.p, now.q, now.a, now.b, n, now.broken));
        return before;
    }

    public int broken(int cell, boolean is) {
        if (!isCell(cell) || now.broken.contains(cell) == is) {
            return NONE;
        }
        TreeSet<Integer> next = new TreeSet<>(now.broken);
        if (is) {
            next.add(cell);
        } else {
            next.remove(cell);
        }
        act(new State(now.p, now.q, now.a, now.b, now.workers, next));
        return next.size();
    }

    public boolean undo() {
        if (done.isEmpty()) {
            return false;
        }
        undone.addLast(now);
        now = done.removeLast();
        return true;
    }

    public boolean redo() {
        if (undone.isEmpty()) {
            return false;
        }
        done.addLast(now);
        now = undone.removeLast();
        return true;
    }

    public int value(int variable, int i, int j) {
        if (!isVariable(variable) || !inside(i, j)) {
            return 0;
        }
        Integer got = values(NONE, null)[variable][index(new Point(i, j))];
        return got == null ? 0 : got;
    }

    public int ordered(int i, int j) {
        return !inside(i, j) ? NONE : isOrdered(new Point(i, j)) ? 1 : 0;
    }

    public int depth(int i, int j) {
        if (!inside(i, j) || !isOrdered(new Point(i, j))) {
            return NONE;
        }
        return depthOf(new Point(i, j), new Integer[points.size()]);
    }

    public int run(int variable, int i, int j) {
        if (!isVariable(variable) || !inside(i, j)) {
            return 0;
        }
        return runWith(now.broken)[variable][index(new Point(i, j))];
    }

    public int wrong() {
        return wrongOf(runWith(now.broken)).size();
    }

    public int tick(int i, int j) {
        return inside(i, j) ? myTick(new Point(i, j)) : NONE;
    }

    public int cell(int i, int j) {
        return inside(i, j) ? myCell(new Point(i, j)) : NONE;
    }

    public int point(int cell, int tick) {
        for (Point x : points) {
            if (myCell(x) == cell && myTick(x) == tick) {
                return x.i * 10 + x.j;
            }
        }
        return NONE;
    }

    public int wave(int tick) {
        if (tick < 0) {
            return NONE;
        }
        return (int) points.stream().filter(x -> myTick(x) == tick).count();
    }

    private TreeSet<Integer> ticksOf(int cell) {
        TreeSet<Integer> ticks = new TreeSet<>();
        for (Point x : points) {
            if (myCell(x) == cell) {
                ticks.add(myTick(x));
            }
        }
        return ticks;
    }

    public int busy(int cell, int what) {
        if (!isCell(cell) || what < 0 || what > 4) {
            return REFUSED;
        }
        switch (what) {
            case 0:
                return (int) points.stream().filter(x -> myCell(x) == cell).count();
            case 1:
                return ticksOf(cell).first();
            case 2:
                return ticksOf(cell).last();
            case 3:
                return now.broken.contains(cell) ? 1 : 0;
            default:
                Set<Integer> more = new TreeSet<>(now.broken);
                more.add(cell);
                return wrongOf(runWith(more)).size() - wrong();
        }
    }

    public int plan(int what) {
        int latency = latencyOf(now.p, now.q);
        int cells = keys(now.a, now.b).size();
        int clashes = clashes(now.p, now.q, now.a, now.b);
        switch (what) {
            case 0:
                return lawful(now.p, now.q) ? 1 : 0;
            case 1:
                return latency;
            case 2:
                return cells;
            case 3:
                return clashes;
            case 4:
                return latency * cells - (points.size() - clashes);
            case 5:
                return greatestDepth() + 1;
            case 6:
                return (int) points.stream().filter(x -> !isOrdered(x)).count();
            default:
                return NONE;
        }
    }

    private int greatestDepth() {
        int most = -1;
        for (Point x : points) {
            most = Math.max(most, depth(x.i, x.j));
        }
        return most;
    }

    public int offset(int offset, int what) {
        if (offset < 0 || offset >= program.offsets.size() || what < 0 || what > 5) {
            return REFUSED;
        }
        Point o = program.offsets.get(offset);
        int readers = (int) points.stream().filter(x -> inside(x.i + o.i, x.j + o.j)).count();
        int back = 0 - now.p * o.i - now.q * o.j;
        return new int[] {o.i, o.j, readers, now.b * o.i - now.a * o.j, back, back < 0 ? 0 : back * readers}[what];
    }

    public int flow(int tick, int what) {
        if (tick < 0 || what != 0 && what != 1) {
            return NONE;
        }
        int all = 0;
        for (Point x : points) {
            if (myTick(x) == tick && !isClash(x)) {
                if (what == 0) {
                    all += (int) program.reads.stream().filter(r -> !inside(x.i + r.a, x.j + r.b)).count();
                } else {
                    all += points.stream().noneMatch(y -> reads(y, x)) ? 1 : 0;
                }
            }
        }
        return all;
    }

    private int[] firstOfLeast(List<int[]> costs) {
        int[] best = costs.get(0);
        for (int[] c : costs) {
            if (c[0] < best[0]) {
                best = c;
            }
        }
        return best;
    }

    public int best(int r, int what) {
        if (r < 1 || r > 9 || what < 0 || what > 3) {
            return REFUSED;
        }
        List<int[]> all = new ArrayList<>();
        for (int p = -r; p <= r; p++) {
            for (int q = -r; q <= r; q++) {
                if (lawful(p, q) && clashes(p, q, now.a, now.b) == 0) {
                    all.add(new int[] {latencyOf(p, q), p, q});
                }
            }
        }
        if (what == 0) {
            return all.size();
        }
        return all.isEmpty() ? REFUSED : firstOfLeast(all)[what - 1];
    }

    public int line(int what) {
        if (what < 0 || what > 3) {
            return REFUSED;
        }
        List<int[]> all = new ArrayList<>();
        for (int a = -3; a <= 3; a++) {
            for (int b = -3; b <= 3; b++) {
                if (lines(a, b) && clashes(now.p, now.q, a, b) == 0) {
                    all.add(new int[] {keys(a, b).size(), a, b});
                }
            }
        }
        if (what == 0) {
            return all.size();
        }
        return all.isEmpty() ? REFUSED : firstOfLeast(all)[what - 1];
    }

    public int pair(int r, int what) {
        if (r < 1 || r > 4 || what < 0 || what > 4) {
            return REFUSED;
        }
        List<int[]> all = new ArrayList<>();
        for (int p = -r; p <= r; p++) {
            for (int q = -r; q <= r; q++) {
                for (int a = -3; a <= 3 && lawful(p, q); a++) {
                    for (int b = -3; b <= 3; b++) {
                        if (lines(a, b) && clashes(p, q, a, b) == 0) {
                            all.add(new int[] {latencyOf(p, q) * keys(a, b).size(), p, q, a, b});
                        }
                    }
                }
            }
        }
        return all.isEmpty() ? REFUSED : firstOfLeast(all)[what];
    }

    public int beats(int n, boolean turn) {
        if (n < 1 || n > 12) {
            return NONE;
        }
        int cells = keys(now.a, now.b).size();
        int block = cells / n + (cells % n == 0 ? 0 : 1);
        int all = 0;
        for (int t = 0; t < latencyOf(now.p, now.q); t++) {
            int[] load = new int[n];
            for (Point x : points) {
                if (myTick(x) == t) {
                    load[turn ? myCell(x) % n : myCell(x) / block]++;
                }
            }
            all += Arrays.stream(load).max().getAsInt();
        }
        return all;
    }

    public int fewest(int beats, boolean turn) {
        for (int n = 1; n <= 12; n++) {
            if (beats(n, turn) <= beats) {
                return n;
            }
        }
        return NONE;
    }

    public int height(int i, int j) {
        if (!inside(i, j) || !hasHeight(new Point(i, j))) {
            return NONE;
        }
        return heightOf(new Point(i, j), new Integer[points.size()]);
    }

    public int critical() {
        int most = greatestDepth();
        int all = 0;
        for (Point x : points) {
            if (hasHeight(x) && depth(x.i, x.j) + height(x.i, x.j) + 1 == most + 1) {
                all++;
            }
        }
        return all;
    }

    public int wrongAt(int i) {
        List<Point> all = wrongOf(runWith(now.broken));
        return i >= 0 && i < all.size() ? all.get(i).i * 10 + all.get(i).j : NONE;
    }

    public int peak(int what) {
        int most = 0;
        int empty = 0;
        for (int t = 0; t < latencyOf(now.p, now.q); t++) {
            most = wave(t) > wave(most) ? t : most;
            empty += wave(t) == 0 ? 1 : 0;
        }
        return what == 0 ? most : what == 1 ? wave(most) : what == 2 ? empty : NONE;
    }

    /** Count, crossings, whether they can be done, longest row. */
    private int[] tilesOf(int r, int c) {
        List<Point> tiles = new ArrayList<>();
        for (Point x : points) {
            Point tile = new Point(x.i / r, x.j / c);
            if (!tiles.contains(tile)) {
                tiles.add(tile);
            }
        }
        int n = tiles.size();
        boolean[][] on = new boolean[n][n];
        int crossings = 0;
        for (Point x : points) {
            for (Point o : program.offsets) {
                if (inside(x.i + o.i, x.j + o.j)) {
                    int mine = tiles.indexOf(new Point(x.i / r, x.j / c));
                    int other = tiles.indexOf(new Point((x.i + o.i) / r, (x.j + o.j) / c));
                    if (mine != other) {
                        crossings++;
                        on[mine][other] = true;
                    }
                }
            }
        }
        // Rows of tiles that grow beyond the tiles there are go round.
        int[] length = new int[n];
        Arrays.fill(length, 1);
        int longest = 1;
        for (int pass = 0; pass <= n && longest <= n; pass++) {
            for (int x = 0; x < n; x++) {
                for (int y = 0; y < n; y++) {
                    if (on[x][y]) {
                        length[x] = Math.max(length[x], length[y] + 1);
                    }
                }
                longest = Math.max(longest, length[x]);
            }
        }
        boolean fine = longest <= n;
        return new int[] {n, crossings, fine ? 1 : 0, fine ? longest : 0};
    }

    public int tiles(int r, int c, int what) {
        if (r < 1 || r > 10 || c < 1 || c > 10 || what < 0 || what > 3) {
            return NONE;
        }
        return tilesOf(r, c)[what];
    }

    public int tiling(int most, int what) {
        if (most < 1 || most > 100 || what < 0 || what > 2) {
            return NONE;
        }
        int[] best = null;
        for (int r = 1; r <= 10; r++) {
            for (int c = 1; c <= 10; c++) {
                if (r * c <= most) {
                    int[] got = tilesOf(r, c);
                    if (got[2] == 1 && (best == null || got[1] < best[2])) {
                        best = new int[] {r, c, got[1]};
                    }
                }
            }
        }
        return best == null ? NONE : best[what];
    }

    public int near(int i, int j, int what) {
        if (!inside(i, j) || what != 0 && what != 1) {
            return NONE;
        }
        Point x = new Point(i, j);
        return (int) points.stream().filter(y -> what == 0 ? reads(x, y) : reads(y, x)).count();
    }

    public int idle(int cell) {
        if (!isCell(cell)) {
            return NONE;
        }
        TreeSet<Integer> ticks = ticksOf(cell);
        int most = 0;
        int row = 0;
        for (int t = ticks.first(); t <= ticks.last(); t++) {
            row = ticks.contains(t) ? 0 : row + 1;
            most = Math.max(most, row);
        }
        return most;
    }

    public int hangs(int i, int j) {
        if (!inside(i, j)) {
            return NONE;
        }
        int all = 0;
        for (Point y : points) {
            all += reach[index(y)][index(new Point(i, j))] ? 1 : 0;
        }
        return all;
    }

    public int stirs(int variable, int i, int j) {
        if (!isVariable(variable) || ordered(i, j) != 1) {
            return NONE;
        }
        Integer[][] before = values(NONE, null);
        Integer[][] after = values(variable, new Point(i, j));
        int all = 0;
        for (int x = 0; x < points.size(); x++) {
            boolean other = false;
            for (int v = 0; v < before.length; v++) {
                other |= before[v][x] != null && !before[v][x].equals(after[v][x]);
            }
            all += other ? 1 : 0;
        }
        return all;
    }

    public int stirred(int variable, int i, int j) {
        if (!isVariable(variable) || ordered(i, j) != 1 || ordered(program.rows - 1, program.columns - 1) != 1) {
            return 0;
        }
        return values(variable, new Point(i, j))[variable][points.size() - 1];
    }

    public int total(int variable, int what) {
        int sum = 0;
        Point most = null;
        Point least = null;
        for (Point x : points) {
            if (isVariable(variable) && isOrdered(x)) {
                int v = value(variable, x.i, x.j);
                sum += v;
                most = most == null || v > value(variable, most.i, most.j) ? x : most;
                least = least == null || v < value(variable, least.i, least.j) ? x : least;
            }
        }
        switch (what) {
            case 0:
                return sum;
            case 1:
                return most == null ? 0 : value(variable, most.i, most.j);
            case 2:
                return least == null ? 0 : value(variable, least.i, least.j);
            case 3:
                return most == null ? NONE : most.i * 10 + most.j;
            default:
                return 0;
        }
    }

    public int law() {
        if (!lawful(now.p, now.q) || clashes(now.p, now.q, now.a, now.b) > 0 || !now.broken.isEmpty()) {
            return 0;
        }
        return wrong() + plan(6);
    }

    public int image(int box) {
        if (box != 0 && box != 1) {
            return NONE;
        }
        boxes[box] = now;
        return latencyOf(now.p, now.q);
    }

    public int back(int box) {
        if (box != 0 && box != 1 || boxes[box] == null) {
            return NONE;
        }
        now = boxes[box];
        done.clear();
        undone.clear();
        return latencyOf(now.p, now.q);
    }

    public int about(int what) {
        int[] all = {program.rows, program.columns, program.names.size(), program.offsets.size(), program.reads.size(),
            now.p, now.q, now.a, now.b, now.workers, now.broken.size(), program.units, done.size(), undone.size(),
            tape.length()};
        return what >= 0 && what < all.length ? all[what] : REFUSED;
    }
}
