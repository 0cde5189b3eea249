/** Boundary cases of the calls that search, count and try out: promises 25 to 42. */
final class SearchBounds {
    private static final String BIG_SUMS = "size 10 10; let x = x(-1,0) + x(0,-1);";
    /** Rows 0 .. 2: (0,1), (0,2), (1,2) are ordered, yet on each of them hangs, by a row, one that is not. */
    private static final String FAR = "size 3 4; let x = x(0,3) + x(0,-3) + x(-1,-1);";
    private static final String GREATEST = "(999*999*999*2+999*999*153+999*784+280)";

    private SearchBounds() {
    }

    static void test() {
        best();
        line();
        pair();
        beats();
        fewest();
        height();
        critical();
        wrongAt();
        peak();
        tiles();
        tiling();
        near();
        idle();
        hangs();
        stirs();
        stirred();
        total();
        law();
    }

    private static int[] four(java.util.function.IntUnaryOperator of) {
        return new int[] {of.applyAsInt(0), of.applyAsInt(1), of.applyAsInt(2), of.applyAsInt(3)};
    }

    private static void best() {
        Sentences.says(25, "Of LAWFUL SCHEDULES without a CLASH by the LINE there is, each factor within -r .. r (r 1 .. 9), what 0: how many");
        PulseGrid g = Bounds.grid(Bounds.SUMS);
        for (int r = 1; r <= 9; r++) {
            Sentences.due("best(" + r + ", 0)", g.best(r, 0), r * r);
        }
        PulseGrid none = Bounds.grid("size 2 2;");
        Sentences.due("without offsets: p is not 0", none.best(1, 0), 6);
        PulseGrid one = new PulseGrid();
        Sentences.due("one point: all", new int[] {one.best(1, 0), one.best(9, 0)}, 9, 361);
        g.onto(1, -1);
        Sentences.due("p is not q", new int[] {g.best(1, 0), g.best(2, 0), g.best(9, 0)}, 0, 2, 72);
        Sentences.says(25, "1: the least LATENCY, 2, 3: p, q of the first one (p ascending, then q) that has it.");
        Sentences.due("by 1 -1", new int[] {g.best(2, 1), g.best(2, 2), g.best(2, 3)}, 7, 1, 2);
        Sentences.due("without offsets", new int[] {none.best(9, 1), none.best(9, 2), none.best(9, 3)}, 2, -1, 0);
        Sentences.due("one point", new int[] {one.best(9, 1), one.best(9, 2), one.best(9, 3)}, 1, -9, -9);
        Sentences.due("what there is stays", new int[] {g.about(5), g.about(6), g.about(12)}, 1, 1, 1);
        PulseGrid steep = Bounds.grid("size 2 2; let x = x(-1,3) + x(0,-2) + x(-1,2);");
        Sentences.due("4 1 is the first: r 3, 4", new int[] {steep.best(3, 0), steep.best(4, 0), steep.best(4, 2), steep.best(4, 3)}, 0, 1, 4, 1);
        Sentences.says(25, "-1000 if there is none (what 0: 0)");
        Sentences.due("p is q alone", four(what -> g.best(1, what)), 0, -1000, -1000, -1000);
        Sentences.due("none is lawful", four(what -> Bounds.grid(Bounds.ROUND).best(9, what)), 0, -1000, -1000, -1000);
        Sentences.says(25, "or r, what can't be.");
        for (int no : Bounds.beyond(1, 9)) {
            Sentences.due("best(" + no + ", ..)", four(what -> one.best(no, what)), -1000, -1000, -1000, -1000);
        }
        for (int no : Bounds.beyond(0, 3)) {
            Sentences.due("best(9, " + no + ")", one.best(9, no), -1000);
        }
    }

    private static void line() {
        Sentences.says(26, "Of LINES (a -3 .. 3, then b; as in a text) by which the SCHEDULE there is has no CLASH what 0: how many");
        PulseGrid one = new PulseGrid();
        Sentences.due("one point: all", one.line(0), 32);
        PulseGrid g = Bounds.grid(Bounds.SUMS);
        Sentences.due("by 1 1: all but 1 -1, -1 1", g.line(0), 30);
        g.fire(-1, -1);
        Sentences.due("whether lawful or not", g.line(0), 30);
        g.fire(0, 0);
        Sentences.due("by 0 0: those too long", g.line(0), 16);
        Sentences.due("3 by 4, by 0 0", Bounds.grid("size 3 4; fire 0 0;").line(0), 8);
        Sentences.says(26, "1: the fewest CELLS, 2, 3: a, b of the first one that has so few.");
        Sentences.due("one point", four(one::line), 32, 1, -3, -2);
        Sentences.due("by 0 0", four(g::line), 16, 9, -3, -2);
        g.fire(1, 1);
        Sentences.due("by 1 1", four(g::line), 30, 3, -1, 0);
        g.fire(0, 1);
        Sentences.due("by 0 1", four(g::line), 30, 3, 0, -1);
        Sentences.due("what there is stays", new int[] {g.about(7), g.about(8), g.about(12)}, 1, 0, 4);
        Sentences.says(26, "-1000 likewise.");
        Sentences.due("none of 4 by 4, by 0 0", four(Bounds.grid("size 4 4; fire 0 0;")::line), 0, -1000, -1000, -1000);
        Sentences.due("none of 10 by 10, by 0 0", four(Bounds.grid("size 10 10; fire 0 0;")::line), 0, -1000, -1000, -1000);
        for (int no : Bounds.beyond(0, 3)) {
            Sentences.due("line(" + no + ")", g.line(no), -1000);
        }
    }

    private static void pair() {
        Sentences.says(27, "Of all pairs of a LAWFUL SCHEDULE (within -r .. r, r 1 .. 4) and a LINE without a CLASH what 0: the least of LATENCY times"
                + " CELLS");
        PulseGrid one = new PulseGrid();
        PulseGrid row = Bounds.grid("size 2 5; let x = x(0,-1);");
        // -3 p + 2 q below 0 and 3 p - 3 q below 0: q above p, 2 q below 3 p: 3, 4 is the first.
        PulseGrid far = Bounds.grid("size 2 2; let x = x(-3,2) + x(3,-3);");
        PulseGrid steep = Bounds.grid("size 2 2; let x = x(-1,3) + x(0,-2) + x(-1,2);");
        Sentences.due("4 1 alone", new int[] {steep.pair(3, 0), steep.pair(4, 0), steep.pair(4, 1), steep.pair(4, 2)}, -1000, 12, 4, 1);
        Sentences.due("one point", new int[] {one.pair(1, 0), one.pair(4, 0)}, 1, 1);
        Sentences.due("a row", new int[] {row.pair(1, 0), row.pair(4, 0)}, 10, 10);
        Sentences.due("by 4 alone", new int[] {far.pair(3, 0), far.pair(4, 0)}, -1000, 16);
        row.fire(5, 5);
        row.onto(1, 1);
        Sentences.due("whatever there is", row.pair(1, 0), 10);
        Sentences.says(27, "1, 2: p, q, 3, 4: a, b of the first such (p, q, a, b ascending, p first).");
        Sentences.due("one point", new int[] {one.pair(4, 1), one.pair(4, 2), one.pair(4, 3), one.pair(4, 4)}, -4, -4, -3, -2);
        Sentences.due("a row", new int[] {row.pair(4, 1), row.pair(4, 2), row.pair(4, 3), row.pair(4, 4)}, 0, 1, 0, -1);
        Sentences.due("by 4 alone", new int[] {far.pair(4, 1), far.pair(4, 2), far.pair(4, 3), far.pair(4, 4)}, 3, 4, -1, 0);
        Sentences.due("what there is stays", new int[] {row.about(5), row.about(7), row.about(12)}, 5, 1, 2);
        Sentences.says(27, "-1000 if there is none");
        PulseGrid round = Bounds.grid(Bounds.ROUND);
        for (int what = 0; what <= 4; what++) {
            Sentences.due("none is lawful, pair(4, " + what + ")", round.pair(4, what), -1000);
            Sentences.due("none within 3, pair(3, " + what + ")", far.pair(3, what), -1000);
        }
        Sentences.says(27, "or r, what can't be.");
        for (int no : Bounds.beyond(1, 4)) {
            for (int what = 0; what <= 4; what++) {
                Sentences.due("pair(" + no + ", " + what + ")", one.pair(no, what), -1000);
            }
        }
        for (int no : Bounds.beyond(0, 4)) {
            Sentences.due("pair(4, " + no + ")", one.pair(4, no), -1000);
        }
    }

    private static void beats() {
        Sentences.says(28, "BEATS of the whole by n WORKERS (1 .. 12) in BLOCKS (turn false), in TURN");
        PulseGrid g = Bounds.grid(Bounds.SUMS);
        Sentences.due("in blocks", new int[] {g.beats(1, false), g.beats(2, false), g.beats(3, false), g.beats(12, false)}, 9, 7, 5, 5);
        Sentences.due("in turn", new int[] {g.beats(1, true), g.beats(2, true), g.beats(3, true), g.beats(12, true)}, 9, 6, 5, 5);
        g.workers(3);
        Sentences.due("whatever workers there are", g.beats(2, true), 6);
        PulseGrid thick = Bounds.grid("size 2 7; fire 0 0; onto 3 1;");
        Sentences.due("14 cells at once by 12", new int[] {thick.beats(12, false), thick.beats(12, true)}, 2, 2);
        Sentences.due("the most", Bounds.grid("size 10 10; fire 0 0;").beats(1, true), 100);
        Sentences.says(28, "NONE if n can't be.");
        for (int no : Bounds.beyond(1, 12)) {
            Sentences.due("beats(" + no + ", false)", g.beats(no, false), -1);
            Sentences.due("beats(" + no + ", true)", g.beats(no, true), -1);
        }
    }

    private static void fewest() {
        Sentences.says(29, "The fewest WORKERS by which BEATS are so many at most (what as beats())");
        PulseGrid g = Bounds.grid(Bounds.SUMS);
        int[] blocks = {3, 3, 2, 2, 1, 1};
        int[] turns = {3, 2, 2, 2, 1, 1};
        for (int most = 5; most <= 10; most++) {
            Sentences.due("fewest(" + most + ", false)", g.fewest(most, false), blocks[most - 5]);
            Sentences.due("fewest(" + most + ", true)", g.fewest(most, true), turns[most - 5]);
        }
        Sentences.due("fewest(MAX)", new int[] {g.fewest(Bounds.MAX, false), g.fewest(Bounds.MAX, true)}, 1, 1);
        PulseGrid twelve = Bounds.grid("size 3 4; fire 0 0; onto 3 1;");
        Sentences.due("all twelve", new int[] {twelve.fewest(1, false), twelve.fewest(1, true)}, 12, 12);
        Sentences.says(29, "NONE if by none up to 12.");
        for (int no : new int[] {4, 0, -1, Bounds.MIN}) {
            Sentences.due("fewest(" + no + ", ..)", new int[] {g.fewest(no, false), g.fewest(no, true)}, -1, -1);
        }
        PulseGrid thick = Bounds.grid("size 2 7; fire 0 0; onto 3 1;");
        Sentences.due("by 14 alone", new int[] {thick.fewest(1, false), thick.fewest(1, true)}, -1, -1);
        Sentences.due("by 7", new int[] {thick.fewest(2, false), thick.fewest(2, true)}, 7, 7);
    }

    private static void height() {
        Sentences.says(30, "HEIGHT: 0 if no POINT hangs on it, else 1 more than the greatest HEIGHT of those that do");
        PulseGrid g = Bounds.grid("size 2 3; let x = x(-1,0) + x(0,-2);");
        Sentences.due("two ways", ArrayBounds.each(g, g::height), 2, 1, 1, 1, 0, 0);
        PulseGrid none = Bounds.grid("size 2 2; let x = 1;");
        Sentences.due("none hangs", ArrayBounds.each(none, none::height), 0, 0, 0, 0);
        Sentences.due("the highest of sums", Bounds.grid(BIG_SUMS).height(0, 0), 18);
        Sentences.says(30, "NONE if it is not ORDERED");
        PulseGrid lone = Bounds.grid(Bounds.LONE);
        Sentences.due("all but one", ArrayBounds.each(lone, lone::height), -1, -1, 0, -1, -1);
        PulseGrid tail = Bounds.grid("size 2 4; let x = x(0,3) + x(0,-3) + x(-1,-1);");
        Sentences.due("one that is not, on which none hangs", new int[] {tail.ordered(1, 1), tail.near(1, 1, 1), tail.height(1, 1)}, 0, 0, -1);
        Sentences.says(30, "a POINT that hangs on it (by any row) is not");
        PulseGrid far = Bounds.grid(FAR);
        Sentences.due("ordered", new int[] {far.ordered(0, 1), far.ordered(1, 2), far.ordered(0, 2)}, 1, 1, 1);
        Sentences.due("by one step", new int[] {far.height(1, 2), far.height(0, 2)}, -1, -1);
        Sentences.due("by two steps", far.height(0, 1), -1);
        Sentences.says(30, "or there is no such POINT.");
        for (PulseGrid some : new PulseGrid[] {g, lone, new PulseGrid()}) {
            for (int[] no : Bounds.noPoints(some)) {
                Sentences.due("height(" + no[0] + ", " + no[1] + ")", some.height(no[0], no[1]), -1);
            }
        }
    }

    private static void critical() {
        Sentences.says(31, "How many POINTS are on a longest row (DEPTH and HEIGHT and 1 are the greatest DEPTH and 1).");
        Sentences.due("one point", new PulseGrid().critical(), 1);
        Sentences.due("none reads: all", Bounds.grid("size 3 4; let x = 1;").critical(), 12);
        Sentences.due("sums: all", Bounds.grid(BIG_SUMS).critical(), 100);
        Sentences.due("slanting rows of three", Bounds.grid("size 3 4; let x = x(-1,-1);").critical(), 6);
        Sentences.due("none is ordered", Bounds.grid(Bounds.ROUND).critical(), 0);
        Sentences.due("one is ordered", Bounds.grid(Bounds.LONE).critical(), 1);
        Sentences.due("ordered, without a height", Bounds.grid(Bounds.CORNER).critical(), 0);
        Sentences.due("the deepest without a height", Bounds.grid(FAR).critical(), 0);
    }

    private static void wrongAt() {
        Sentences.says(32, "The i-th POINT (0 ..; i * 10 + j, by i, then j) that is WRONG");
        PulseGrid g = Bounds.grid(Bounds.SUMS);
        g.fire(1, 0);
        int[] want = {1, 2, 11, 12, 21, 22};
        for (int k = 0; k < 6; k++) {
            Sentences.due("wrongAt(" + k + ")", g.wrongAt(k), want[k]);
        }
        PulseGrid all = Bounds.grid("size 10 10; let x = 1; fire 0 0; onto 0 1;");
        Sentences.due("the last of 90", new int[] {all.wrongAt(0), all.wrongAt(89)}, 1, 99);
        all.broken(0, true);
        Sentences.due("the first point, too", new int[] {all.wrongAt(0), all.wrongAt(1), all.wrongAt(90)}, 0, 1, 99);
        all.undo();
        Sentences.says(32, "NONE if there is none such.");
        Sentences.due("one behind the last", new int[] {g.wrongAt(6), all.wrongAt(90), all.wrongAt(100)}, -1, -1, -1);
        for (int no : new int[] {-1, -2, Bounds.MIN, Bounds.MAX}) {
            Sentences.due("wrongAt(" + no + ")", g.wrongAt(no), -1);
        }
        g.fire(1, 1);
        Sentences.due("none is wrong", new int[] {g.wrongAt(0), new PulseGrid().wrongAt(0), Bounds.grid(Bounds.ROUND).wrongAt(0)}, -1, -1, -1);
    }

    private static void peak() {
        Sentences.says(33, "The TICK with most POINTS (the first; what 0), how many (1)");
        PulseGrid g = Bounds.grid("size 2 4; fire 1 1;");
        Sentences.due("three have two", new int[] {g.peak(0), g.peak(1)}, 1, 2);
        g.fire(0, -3);
        Sentences.due("all have two", new int[] {g.peak(0), g.peak(1)}, 0, 2);
        g.fire(0, 0);
        Sentences.due("all at once", new int[] {g.peak(0), g.peak(1)}, 0, 8);
        g.fire(4, 1);
        Sentences.due("each its own", new int[] {g.peak(0), g.peak(1)}, 0, 1);
        Sentences.due("one point", new int[] {new PulseGrid().peak(0), new PulseGrid().peak(1)}, 0, 1);
        PulseGrid big = Bounds.grid("size 10 10; fire -9 9;");
        Sentences.due("far behind", new int[] {big.peak(0), big.peak(1)}, 81, 10);
        Sentences.says(33, "in how many TICKS below LATENCY there is none (2)");
        Sentences.due("none", new int[] {g.peak(2), new PulseGrid().peak(2)}, 0, 0);
        g.fire(0, -3);
        Sentences.due("by 0 -3", g.peak(2), 6);
        Sentences.due("the most", big.peak(2), 144);
        Sentences.says(33, "NONE for another what.");
        for (int no : Bounds.beyond(0, 2)) {
            Sentences.due("peak(" + no + ")", g.peak(no), -1);
        }
    }

    private static void tiles() {
        Sentences.says(34, "TILES of r rows, c columns (1 .. 10 each; those at the end may be less) what 0: how many there are");
        PulseGrid big = Bounds.grid(BIG_SUMS);
        int[] pieces = {10, 5, 4, 3, 2, 2, 2, 2, 2, 1};
        for (int r = 1; r <= 10; r++) {
            for (int c = 1; c <= 10; c++) {
                Sentences.due("tiles(" + r + ", " + c + ", 0)", big.tiles(r, c, 0), pieces[r - 1] * pieces[c - 1]);
            }
        }
        PulseGrid g = Bounds.grid("size 5 4; let x = x(-1,0) + x(-1,0) + x(-1,-1);");
        Sentences.due("larger than all", new int[] {g.tiles(6, 5, 0), g.tiles(10, 10, 0), new PulseGrid().tiles(10, 10, 0)}, 1, 1, 1);
        Sentences.says(34, "1: how often a POINT reads one of another TILE (each OFFSET once)");
        Sentences.due("tiles(2, 3, 1)", g.tiles(2, 3, 1), 16);
        Sentences.due("each its own", g.tiles(1, 1, 1), 16 + 12);
        Sentences.due("one for all", new int[] {g.tiles(5, 4, 1), g.tiles(10, 10, 1)}, 0, 0);
        StringBuilder twelve = new StringBuilder("size 5 5; let a = 1");
        for (int k = 0; k < 12; k++) {
            twelve.append("+a(").append(k / 4 - 3).append(',').append(k % 4).append(')');
        }
        PulseGrid full = Bounds.grid(twelve + ";");
        Sentences.due("by twelve offsets", new int[] {full.tiles(5, 5, 1), full.tiles(1, 1, 1), full.tiles(1, 5, 3)}, 0, 9 * 14, 5);
        Sentences.due("those at the end", new int[] {big.tiles(9, 10, 1), big.tiles(10, 9, 1), big.tiles(4, 4, 1)}, 10, 10, 40);
        tilesInOrder(g, big);
        Sentences.says(34, "NONE if there are none such");
        for (int no : Bounds.beyond(1, 10)) {
            Sentences.due("tiles(" + no + ", 1, ..)", four(what -> g.tiles(no, 1, what)), -1, -1, -1, -1);
            Sentences.due("tiles(1, " + no + ", ..)", four(what -> g.tiles(1, no, what)), -1, -1, -1, -1);
        }
        Sentences.says(34, "or for another what.");
        for (int no : Bounds.beyond(0, 3)) {
            Sentences.due("tiles(1, 1, " + no + ")", g.tiles(1, 1, no), -1);
        }
    }

    private static void tilesInOrder(PulseGrid g, PulseGrid big) {
        PulseGrid round = Bounds.grid(Bounds.ROUND);
        PulseGrid cross = Bounds.grid("size 2 4; let x = x(-1,1) + x(-1,-1);");
        Sentences.says(34, "2: 1 if they can be done one whole behind another, else 0");
        Sentences.due("they can", new int[] {g.tiles(2, 3, 2), big.tiles(1, 1, 2), big.tiles(10, 10, 2), new PulseGrid().tiles(1, 1, 2)}, 1, 1, 1, 1);
        Sentences.due("they go round", round.tiles(1, 2, 2), 0);
        Sentences.due("points go round, each within its tile", round.tiles(2, 1, 2), 1);
        Sentences.due("the first goes round", Bounds.grid("size 1 2; let x = x(0,1) + x(0,-1);").tiles(1, 1, 2), 0);
        Sentences.due("some go round", Bounds.grid("size 2 2; let x = x(1,-1) + x(-1,1);").tiles(1, 1, 2), 0);
        Sentences.due("tiles go round, though no points", new int[] {cross.plan(6), cross.tiles(2, 1, 2), cross.tiles(2, 2, 2)}, 0, 0, 0);
        Sentences.says(34, "3: how many are on a longest row of TILES each of which hangs on the one ahead (0 if they can't be done so)");
        Sentences.due("one tile", new int[] {g.tiles(10, 10, 3), round.tiles(2, 2, 3), new PulseGrid().tiles(1, 1, 3)}, 1, 1, 1);
        Sentences.due("none hangs on another", Bounds.grid("size 4 4; let x = 1;").tiles(1, 1, 3), 1);
        Sentences.due("the first is the last", Bounds.grid("size 3 1; let x = x(1,0);").tiles(1, 1, 3), 3);
        Sentences.due("rows", new int[] {g.tiles(2, 3, 3), big.tiles(1, 1, 3), big.tiles(3, 3, 3)}, 4, 19, 7);
        Sentences.due("they can't", new int[] {round.tiles(1, 2, 3), cross.tiles(2, 2, 3)}, 0, 0);
        Sentences.says(34, "(A TILE hangs on another one, if a POINT of it does.)");
        PulseGrid once = Bounds.grid("size 2 4; let x = x(-1,-3);");
        Sentences.due("one point of it does", new int[] {once.tiles(1, 2, 1), once.tiles(1, 2, 3), once.tiles(2, 2, 3)}, 1, 2, 2);
        Sentences.due("none does", once.tiles(2, 4, 3), 1);
    }

    private static void tiling() {
        Sentences.says(35, "Of TILES of so many POINTS at most (r times c; 1 .. 100)");
        PulseGrid big = Bounds.grid(BIG_SUMS);
        Sentences.due("100", new int[] {big.tiling(100, 0), big.tiling(100, 1), big.tiling(100, 2)}, 10, 10, 0);
        Sentences.due("99", new int[] {big.tiling(99, 0), big.tiling(99, 1), big.tiling(99, 2)}, 5, 10, 10);
        Sentences.due("50 and 49", new int[] {big.tiling(50, 0), big.tiling(49, 2)}, 5, 20);
        Sentences.due("1", new int[] {big.tiling(1, 0), big.tiling(1, 1), big.tiling(1, 2)}, 1, 1, 180);
        for (int no : Bounds.beyond(1, 100)) {
            Sentences.due("tiling(" + no + ", ..)", new int[] {big.tiling(no, 0), big.tiling(no, 1), big.tiling(no, 2)}, -1, -1, -1);
        }
        Sentences.says(35, "that can be done so");
        PulseGrid cross = Bounds.grid("size 2 4; let x = x(-1,1) + x(-1,-1);");
        Sentences.due("rows alone, till all are one", new int[] {cross.tiling(4, 0), cross.tiling(4, 1), cross.tiling(4, 2)}, 1, 1, 6);
        Sentences.due("all are one", new int[] {cross.tiling(8, 0), cross.tiling(8, 1), cross.tiling(8, 2)}, 2, 4, 0);
        PulseGrid round = Bounds.grid(Bounds.ROUND);
        Sentences.due("what goes round within", new int[] {round.tiling(2, 0), round.tiling(2, 1), round.tiling(2, 2)}, 2, 1, 0);
        Sentences.says(35, "the first (r, then c) of which POINTS read fewest of other TILES what 0: r, 1: c, 2: how often");
        PulseGrid none = Bounds.grid("size 3 3;");
        Sentences.due("none reads", new int[] {none.tiling(100, 0), none.tiling(100, 1), none.tiling(100, 2)}, 1, 1, 0);
        PulseGrid sums = Bounds.grid(Bounds.SUMS);
        Sentences.due("1 by 3 ahead of 3 by 1", new int[] {sums.tiling(3, 0), sums.tiling(3, 1), sums.tiling(3, 2)}, 1, 3, 6);
        PulseGrid oblong = Bounds.grid("size 4 6; let x = x(-1,0) + x(0,-1);");
        Sentences.due("2 by 2", new int[] {oblong.tiling(4, 0), oblong.tiling(4, 1), oblong.tiling(4, 2)}, 2, 2, 14);
        Sentences.due("just so large as all", new int[] {oblong.tiling(100, 0), oblong.tiling(100, 1)}, 4, 6);
        Sentences.due("one point", new int[] {new PulseGrid().tiling(100, 0), new PulseGrid().tiling(100, 1)}, 1, 1);
        Sentences.says(35, "NONE if there are none");
        Sentences.due("tiles of one go round", new int[] {round.tiling(1, 0), round.tiling(1, 1), round.tiling(1, 2)}, -1, -1, -1);
        Sentences.says(35, "or for another what.");
        for (int no : Bounds.beyond(0, 2)) {
            Sentences.due("tiling(100, " + no + ")", big.tiling(100, no), -1);
        }
    }

    private static void near() {
        Sentences.says(36, "How many POINTS a POINT hangs on (what 0), how many POINTS hang on it (1), by one OFFSET each, itself aside");
        PulseGrid g = Bounds.grid("size 3 3; let x = 1; let y = x(0,0) + y(-1,0) + x(-1,0) + x(0,-2) + y(1,1);");
        Sentences.due("hangs on", ArrayBounds.each(g, (i, j) -> g.near(i, j, 0)), 1, 1, 1, 2, 2, 2, 1, 1, 2);
        Sentences.due("hang on it", ArrayBounds.each(g, (i, j) -> g.near(i, j, 1)), 2, 1, 1, 2, 2, 2, 1, 1, 1);
        PulseGrid none = Bounds.grid("size 1 1; let x = 1; let y = x(0,0) + x(1,0);");
        Sentences.due("itself aside", new int[] {none.near(0, 0, 0), none.near(0, 0, 1)}, 0, 0);
        PulseGrid round = Bounds.grid(Bounds.ROUND);
        Sentences.due("not by longer rows", new int[] {round.near(0, 0, 0), round.near(0, 0, 1)}, 1, 1);
        Sentences.says(36, "NONE if there is none such");
        for (PulseGrid some : new PulseGrid[] {g, new PulseGrid()}) {
            for (int[] no : Bounds.noPoints(some)) {
                Sentences.due("near(" + no[0] + ", " + no[1] + ", 0)", some.near(no[0], no[1], 0), -1);
                Sentences.due("near(" + no[0] + ", " + no[1] + ", 1)", some.near(no[0], no[1], 1), -1);
            }
        }
        Sentences.says(36, "or for another what.");
        for (int no : Bounds.beyond(0, 1)) {
            Sentences.due("near(0, 0, " + no + ")", g.near(0, 0, no), -1);
        }
    }

    private static void idle() {
        Sentences.says(37, "The most TICKS one behind another between the first and the last POINT of a CELL in which it has none");
        PulseGrid g = Bounds.grid("size 3 3; fire 4 1;");
        Sentences.due("each fourth tick", new int[] {g.idle(0), g.idle(2)}, 3, 3);
        g.onto(0, 1);
        Sentences.due("each tick", g.idle(0), 0);
        g.onto(1, 1);
        Sentences.due("one, two, three points", new int[] {g.idle(0), g.idle(1), g.idle(2), g.idle(4)}, 0, 4, 4, 0);
        g.fire(0, 0);
        Sentences.due("all at once", g.idle(2), 0);
        Sentences.due("the most", Bounds.grid("size 10 10; fire 9 9; onto 3 2;").idle(20), 44);
        Sentences.due("one point", new PulseGrid().idle(0), 0);
        g.fire(2, 2);
        g.broken(2, true);
        Sentences.due("a broken one", g.idle(2), 3);
        Sentences.says(37, "NONE if there is no such CELL.");
        for (int no : Bounds.noCells(g)) {
            Sentences.due("idle(" + no + ")", g.idle(no), -1);
        }
    }

    private static void hangs() {
        Sentences.says(38, "How many POINTS hang on a POINT, by rows of any length (itself, if it does)");
        PulseGrid g = Bounds.grid(Bounds.SUMS);
        Sentences.due("sums", ArrayBounds.each(g, g::hangs), 8, 5, 2, 5, 3, 1, 2, 1, 0);
        Sentences.due("the most", Bounds.grid(BIG_SUMS).hangs(0, 0), 99);
        PulseGrid round = Bounds.grid(Bounds.ROUND);
        Sentences.due("itself, too", ArrayBounds.each(round, round::hangs), 2, 2, 2, 2);
        Sentences.due("all, itself, too", Bounds.grid("size 10 10; let x = x(0,1) + x(0,-1) + x(1,0) + x(-1,0);").hangs(5, 5), 100);
        PulseGrid lone = Bounds.grid(Bounds.LONE);
        Sentences.due("one aside", ArrayBounds.each(lone, lone::hangs), 2, 2, 0, 2, 2);
        Sentences.due("not itself by 0, 0", Bounds.grid("size 1 1; let x = 1; let y = x(0,0);").hangs(0, 0), 0);
        Sentences.says(38, "NONE if there is none such.");
        for (PulseGrid some : new PulseGrid[] {g, new PulseGrid()}) {
            for (int[] no : Bounds.noPoints(some)) {
                Sentences.due("hangs(" + no[0] + ", " + no[1] + ")", some.hangs(no[0], no[1]), -1);
            }
        }
    }

    private static void stirs() {
        Sentences.says(39, "Were the VALUE of a VARIABLE at a POINT 1 more than it is reckoned, and all that reads it reckoned so: at how many POINTS some"
                + " VARIABLE would have another VALUE");
        PulseGrid g = Bounds.grid(Bounds.SUMS);
        Sentences.due("sums", ArrayBounds.each(g, (i, j) -> g.stirs(0, i, j)), 9, 6, 3, 6, 4, 2, 3, 2, 1);
        Sentences.due("values stay", g.value(0, 2, 2), 20);
        PulseGrid capped = Bounds.grid("size 1 4; let x = x(0,-1) < 5 edge 5; let y = x(0,-1) + y(0,-1) - y(0,-1);");
        Sentences.due("itself, and what reads it once", capped.stirs(0, 0, 0), 2);
        Sentences.due("itself alone", new int[] {capped.stirs(1, 0, 0), capped.stirs(0, 0, 3)}, 1, 1);
        Sentences.due("the greatest wraps", Bounds.grid("size 1 1; let x = " + GREATEST + ";").stirs(0, 0, 0), 1);
        PulseGrid three = Bounds.grid("size 10 10; let a = 1; let b = a(0,0); let c = b(0,0) + c(0,-1);");
        Sentences.due("through variables", new int[] {three.stirs(0, 9, 0), three.stirs(0, 9, 9), three.stirs(2, 0, 0)}, 10, 1, 10);
        PulseGrid lone = Bounds.grid(Bounds.LONE);
        Sentences.says(39, "NONE if the POINT is not ORDERED");
        Sentences.due("all but one", ArrayBounds.each(lone, (i, j) -> lone.stirs(0, i, j)), -1, -1, 1, -1, -1);
        Sentences.says(39, "or there are none such.");
        for (int no : Bounds.noVariables(g)) {
            Sentences.due("stirs(" + no + ", 0, 0)", g.stirs(no, 0, 0), -1);
        }
        for (int[] no : Bounds.noPoints(g)) {
            Sentences.due("stirs(0, " + no[0] + ", " + no[1] + ")", g.stirs(0, no[0], no[1]), -1);
        }
        Sentences.due("no variables", new PulseGrid().stirs(0, 0, 0), -1);
    }

    private static void stirred() {
        Sentences.says(40, "What that VARIABLE would be at the last POINT (ROWS - 1, COLUMNS - 1) by that");
        PulseGrid g = Bounds.grid(Bounds.SUMS);
        Sentences.due("sums", ArrayBounds.each(g, (i, j) -> g.stirred(0, i, j)), 26, 23, 21, 23, 22, 21, 21, 21, 21);
        PulseGrid two = Bounds.grid("size 1 2; let x = 4; let y = x(0,0) * 10 + x(0,-1);");
        Sentences.due("that variable alone", new int[] {two.stirred(0, 0, 0), two.stirred(0, 0, 1), two.stirred(1, 0, 1), two.stirred(1, 0, 0)}, 4, 5, 45, 44);
        Sentences.due("the greatest wraps", Bounds.grid("size 1 1; let x = " + GREATEST + ";").stirred(0, 0, 0), Bounds.MIN);
        PulseGrid big = Bounds.grid("size 10 10; let x = i * 10 + j;");
        Sentences.due("the last of 100", new int[] {big.stirred(0, 0, 0), big.stirred(0, 9, 9)}, 99, 100);
        Sentences.says(40, "0 if that is not ORDERED");
        PulseGrid lone = Bounds.grid(Bounds.LONE);
        Sentences.due("stirs(), stirred() of one that is", new int[] {lone.stirs(0, 0, 2), lone.stirred(0, 0, 2)}, 1, 0);
        PulseGrid corner = Bounds.grid(Bounds.CORNER);
        Sentences.due("the last hangs on one that is not", new int[] {corner.stirs(0, 0, 0), corner.stirred(0, 0, 0)}, 1, 0);
        Sentences.says(40, "or where stirs() is NONE.");
        PulseGrid slant = Bounds.grid("size 2 2; let x = 7 + x(1,-1) + x(-1,1);");
        Sentences.due("the last is ordered", ArrayBounds.each(slant, slant::ordered), 1, 0, 0, 1);
        Sentences.due("at those not ordered", ArrayBounds.each(slant, (i, j) -> slant.stirred(0, i, j)), 7, 0, 0, 8);
        PulseGrid ring = Bounds.grid("size 1 4; let x = 7 + x(0,3) + x(0,-3);");
        Sentences.due("not ordered", new int[] {ring.stirs(0, 0, 0), ring.stirred(0, 0, 0)}, -1, 0);
        for (int no : Bounds.noVariables(g)) {
            Sentences.due("stirred(" + no + ", 0, 0)", g.stirred(no, 0, 0), 0);
        }
        for (int[] no : Bounds.noPoints(g)) {
            Sentences.due("stirred(0, " + no[0] + ", " + no[1] + ")", g.stirred(0, no[0], no[1]), 0);
        }
    }

    private static void total() {
        Sentences.says(41, "Of a VARIABLE what 0: its VALUES of all POINTS that are ORDERED, together (wrapping)");
        PulseGrid g = Bounds.grid("size 2 2; let x = 3 - i * j; let y = 0 - x(0,0) - j;");
        Sentences.due("two variables", new int[] {g.total(0, 0), g.total(1, 0)}, 11, -13);
        PulseGrid wrapped = Bounds.grid("size 1 2; let x = " + GREATEST + ";");
        Sentences.due("wrapping", wrapped.total(0, 0), -2);
        PulseGrid lone = Bounds.grid("size 1 5; let x = 0 - 7 + x(0,3) + x(0,-3);");
        Sentences.due("those ordered alone", lone.total(0, 0), -7);
        Sentences.says(41, "1: the greatest, 2: the least");
        Sentences.due("two variables", new int[] {g.total(0, 1), g.total(0, 2), g.total(1, 1), g.total(1, 2)}, 3, 2, -3, -4);
        Sentences.due("one point alone, above 0", four(what -> Bounds.grid(Bounds.LONE).total(0, what)), 1, 1, 1, 2);
        Sentences.due("one point alone, below 0", new int[] {lone.total(0, 1), lone.total(0, 2)}, -7, -7);
        PulseGrid ends = Bounds.grid("size 1 2; let x = " + GREATEST + " + j;");
        Sentences.due("the ends of the ints", new int[] {ends.total(0, 1), ends.total(0, 2)}, Bounds.MAX, Bounds.MIN);
        PulseGrid least = Bounds.grid("size 1 1; let x = " + GREATEST + " + 1;");
        Sentences.due("the least alone", new int[] {least.total(0, 1), least.total(0, 2), least.total(0, 3)}, Bounds.MIN, Bounds.MIN, 0);
        Sentences.says(41, "3: the first POINT (i * 10 + j) that has the greatest.");
        Sentences.due("two variables", new int[] {g.total(0, 3), g.total(1, 3)}, 0, 0);
        Sentences.due("the one ordered", lone.total(0, 3), 2);
        Sentences.due("the last of 100", Bounds.grid("size 10 10; let x = i * 10 + j;").total(0, 3), 99);
        Sentences.due("the first of 10", Bounds.grid("size 10 10; let x = j;").total(0, 3), 9);
        Sentences.due("the first by i", Bounds.grid("size 10 10; let x = i + j < 9;").total(0, 3), 9);
        Sentences.says(41, "0 (3: NONE) if there are none");
        Sentences.due("none ordered", four(what -> Bounds.grid(Bounds.ROUND).total(0, what)), 0, 0, 0, -1);
        Sentences.says(41, "no such VARIABLE");
        for (int no : Bounds.noVariables(g)) {
            Sentences.due("total(" + no + ", ..)", four(what -> g.total(no, what)), 0, 0, 0, -1);
        }
        Sentences.due("no variables", four(what -> new PulseGrid().total(0, what)), 0, 0, 0, -1);
        Sentences.says(41, "or for another what.");
        for (int no : Bounds.beyond(0, 3)) {
            Sentences.due("total(0, " + no + ")", g.total(0, no), 0);
            Sentences.due("total(9, " + no + ")", g.total(9, no), 0);
        }
    }

    private static void law() {
        Sentences.says(42, "Whether all is as it must be: by a LAWFUL SCHEDULE, without a CLASH or a BROKEN CELL, how many POINTS are WRONG, or not ORDERED"
                + " (0 by another one).");
        Sentences.due("one point", new PulseGrid().law(), 0);
        PulseGrid g = Bounds.grid(Bounds.SUMS);
        Sentences.due("all is as it must be", new int[] {g.law(), g.wrong()}, 0, 0);
        g.fire(1, 0);
        Sentences.due("not lawful, with wrong points", new int[] {g.law(), g.wrong()}, 0, 6);
        g.fire(1, 1);
        g.onto(1, -1);
        PulseGrid once = Bounds.grid("size 2 2; let x = 1 + x(-1,0) + x(0,-1); onto 1 -1;");
        Sentences.due("with one clash", new int[] {once.law(), once.plan(3), once.wrong()}, 0, 1, 2);
        Sentences.due("with clashes, and wrong points", new int[] {g.law(), g.plan(3), g.wrong()}, 0, 4, 6);
        g.onto(1, 0);
        g.broken(0, true);
        Sentences.due("with a broken cell, and wrong points", new int[] {g.law(), g.wrong()}, 0, 3);
        g.undo();
        Sentences.due("mended", g.law(), 0);
        Sentences.due("none is ordered, none is lawful", Bounds.grid(Bounds.ROUND).law(), 0);
        PulseGrid far = Bounds.grid("size 10 10; let x = 1 + x(-3,2) + x(-1,-3) * 2 edge i - j; fire 3 1; onto 1 1;");
        Sentences.due("far reads, lawful", new int[] {far.plan(0), far.plan(3), far.law()}, 1, 0, 0);
    }
}
