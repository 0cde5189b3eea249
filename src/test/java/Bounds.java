import java.util.ArrayList;
import java.util.List;

/** What the tests of boundary cases share: grids by their texts, arguments that can't be, objects that must be alike. */
final class Bounds {
    static final int MIN = Integer.MIN_VALUE;
    static final int MAX = Integer.MAX_VALUE;
    static final int NONE = PulseGrid.NONE;
    /** Its values, row by row: 2 3 4, 3 6 10, 4 10 20. */
    static final String SUMS = "size 3 3; let x = x(-1,0) + x(0,-1) edge 1;";
    /** Each point hangs on the one below or above it, which hangs on it: none is ordered. */
    static final String ROUND = "size 2 2; let y = y(1,0) + y(-1,0) + 1;";
    /** Points 0 and 3, 1 and 4 hang on one another; 2 alone hangs on none and is ordered. */
    static final String LONE = "size 1 5; let x = 1 + x(0,3) + x(0,-3);";
    /** (0,1) and (1,0), (0,2) and (1,1) hang on one another, (0,2) on (0,0), (1,2) on (1,0): (0,0) alone is ordered. */
    static final String CORNER = "size 2 3; let x = 1 + x(-1,1) + x(1,-1) + x(0,-2);";

    private static final int CALLS = 30;

    private Bounds() {
    }

    static PulseGrid grid(String text) {
        PulseGrid g = new PulseGrid();
        Check.write(g, text);
        if (g.loop() < 0) {
            Sentences.due("loop() of " + text + " (a fault, its place)", g.fault(0) * 1000 + g.fault(1), 0);
        }
        return g;
    }

    static void faulty(String text, int fault, int place) {
        PulseGrid g = new PulseGrid();
        Check.write(g, text);
        String told = text.replaceAll("(.)\\1{9,}", "$1..$1").replace("\n", "\\n");
        Sentences.due("bytes of " + told, g.about(14), text.length());
        Sentences.due("is refused: " + told, g.loop() == NONE, fault != 0);
        Sentences.due("fault(0) of " + told, g.fault(0), fault);
        Sentences.due("fault(1) of " + told, g.fault(1), place);
    }

    static void fine(String text) {
        faulty(text, 0, NONE);
    }

    /** Numbers that are not within least .. most, next to it and far away. */
    static int[] beyond(int least, int most) {
        return new int[] {least - 1, least - 2, most + 1, most + 2, -1000000, 1000000, MIN, MIN + 1, MAX, MAX - 1};
    }

    /** Pairs i, j that are no point; some would be one, were i * 10 + j looked at alone, or its lowest bits. */
    static int[][] noPoints(PulseGrid g) {
        int rows = g.about(0);
        int columns = g.about(1);
        return new int[][] {{-1, 0}, {0, -1}, {rows, 0}, {0, columns}, {rows, columns}, {rows - 1, columns}, {rows, columns - 1},
            {-1, -1}, {-1, 10}, {1, -10}, {0, 10}, {10, 0}, {MIN, 0}, {0, MIN}, {MAX, 0}, {0, MAX}, {MIN, MIN}, {MAX, MAX},
            {429496730, 0}, {429496730, -4}, {MIN, -MIN}, {256, 0}, {0, 65536}};
    }

    /** Numbers that are no cell; some would be one, were a bit shifted by them. */
    static int[] noCells(PulseGrid g) {
        int cells = g.plan(2);
        return new int[] {-1, -2, cells, cells + 1, 64, 65, -64, 128, 256, MIN, MIN + 1, MAX};
    }

    static int[] noVariables(PulseGrid g) {
        int variables = g.about(2);
        return new int[] {-1, -2, variables, variables + 1, 3, 4, MIN, MAX};
    }

    /** One that has acts to take back and to do again, a full and an empty box, a broken cell and bytes on its tape. */
    static PulseGrid lively() {
        PulseGrid g = grid(SUMS);
        g.fire(2, 1);
        g.onto(0, 1);
        g.workers(4);
        g.broken(1, true);
        g.image(0);
        g.broken(2, true);
        g.workers(5);
        g.undo();
        Check.write(g, "size 2 2; let q = 7;");
        return g;
    }

    /** All that can be seen of both is the same; they are spent by that. */
    static void alike(String call, PulseGrid one, PulseGrid other) {
        List<String> got = seen(one);
        List<String> want = seen(other);
        int k = 0;
        while (k < got.size() && k < want.size() && got.get(k).equals(want.get(k))) {
            k++;
        }
        boolean same = k == got.size() && k == want.size();
        String apart = same ? "" : " (" + (k < got.size() ? got.get(k) : "no more") + ", not "
                + (k < want.size() ? want.get(k) : "no more") + ")";
        Sentences.due(call + " leaves all as it is" + apart, same, true);
    }

    private static List<String> seen(PulseGrid g) {
        List<String> all = new ArrayList<>();
        now(g, all);
        for (int k = 0; k < CALLS && g.undo(); k++) {
            all.add("undone");
            layout(g, all);
        }
        for (int k = 0; k < CALLS && g.redo(); k++) {
            all.add("done again");
            layout(g, all);
        }
        for (int box = 0; box < 2; box++) {
            all.add("back(" + box + ") " + g.back(box));
            layout(g, all);
        }
        all.add("loop() " + g.loop());
        now(g, all);
        return all;
    }

    private static void now(PulseGrid g, List<String> all) {
        for (int k = 0; k < 15; k++) {
            all.add("about(" + k + ") " + g.about(k));
        }
        all.add("fault " + g.fault(0) + ", " + g.fault(1));
        for (int i = 0; i < g.about(0); i++) {
            for (int j = 0; j < g.about(1); j++) {
                all.add("at " + i + ", " + j + ": " + g.ordered(i, j) + ", " + g.depth(i, j) + ", " + g.value(0, i, j) + ", "
                        + g.run(0, i, j) + ", " + g.tick(i, j) + ", " + g.cell(i, j));
            }
        }
        layout(g, all);
    }

    private static void layout(PulseGrid g, List<String> all) {
        StringBuilder text = new StringBuilder();
        for (int k = 5; k <= 10; k++) {
            text.append(g.about(k)).append(", ");
        }
        for (int k = 0; k < g.plan(2); k++) {
            text.append(g.busy(k, 3));
        }
        all.add("layout " + text + ", wrong " + g.wrong());
    }
}
