/** Boundary cases of the calls that tell of points, cells, ticks and offsets: promises 12 to 24. */
final class PointBounds {
    private static final int[] SUM_VALUES = {2, 3, 4, 3, 6, 10, 4, 10, 20};

    private PointBounds() {
    }

    static void test() {
        value();
        ordered();
        depth();
        run();
        wrong();
        tick();
        cell();
        point();
        wave();
        busy();
        plan();
        offset();
        flow();
    }

    private static void value() {
        Sentences.says(12, "VALUE of a VARIABLE at a POINT");
        PulseGrid g = Bounds.grid("size 10 10; let a = i * 10 + j; let b = a(0,0) + 100; let c = b(0,0) * -1;");
        Sentences.due("the first", new int[] {g.value(0, 0, 0), g.value(1, 0, 0), g.value(2, 0, 0)}, 0, 100, -100);
        Sentences.due("the last", new int[] {g.value(0, 9, 9), g.value(1, 9, 9), g.value(2, 9, 9)}, 99, 199, -199);
        PulseGrid sums = Bounds.grid(Bounds.SUMS);
        sums.fire(-1, -1);
        sums.broken(0, true);
        Sentences.due("whatever runs", ArrayBounds.each(sums, (i, j) -> sums.value(0, i, j)), SUM_VALUES);
        Sentences.says(12, "0 if it has none");
        PulseGrid round = Bounds.grid(Bounds.ROUND);
        Sentences.due("none ordered", ArrayBounds.each(round, (i, j) -> round.value(0, i, j)), 0, 0, 0, 0);
        Sentences.due("though it runs", round.run(0, 1, 1), 2);
        Sentences.says(12, "or there are none such (ordered() tells)");
        for (int no : Bounds.noVariables(sums)) {
            Sentences.due("value(" + no + ", 0, 0)", sums.value(no, 0, 0), 0);
        }
        for (int[] no : Bounds.noPoints(sums)) {
            Sentences.due("value(0, " + no[0] + ", " + no[1] + ")", sums.value(0, no[0], no[1]), 0);
            Sentences.due("ordered(" + no[0] + ", " + no[1] + ")", sums.ordered(no[0], no[1]), -1);
        }
        Sentences.due("a variable beyond, at a point beyond", sums.value(Bounds.MIN, Bounds.MIN, Bounds.MAX), 0);
        PulseGrid fewer = Bounds.grid("size 10 10; let a = 1; let b = 2; let c = 3;");
        Check.write(fewer, "size 2 2; let a = 7;");
        fewer.loop();
        Sentences.due("a variable and a point of an earlier loop", new int[] {fewer.value(2, 0, 0), fewer.value(0, 2, 0), fewer.value(0, 0, 2)}, 0, 0, 0);
    }

    private static void ordered() {
        Sentences.says(13, "Whether a POINT is ORDERED: 1, 0");
        PulseGrid corner = Bounds.grid(Bounds.CORNER);
        Sentences.due("one of six", ArrayBounds.each(corner, corner::ordered), 1, 0, 0, 0, 0, 0);
        PulseGrid g = Bounds.grid("size 10 10;");
        Sentences.due("the last", g.ordered(9, 9), 1);
        Sentences.says(13, "NONE if there is none such");
        for (PulseGrid some : new PulseGrid[] {corner, g, new PulseGrid()}) {
            for (int[] no : Bounds.noPoints(some)) {
                Sentences.due("ordered(" + no[0] + ", " + no[1] + ")", some.ordered(no[0], no[1]), -1);
            }
        }
    }

    private static void depth() {
        Sentences.says(14, "DEPTH; NONE if it is not ORDERED");
        PulseGrid lone = Bounds.grid(Bounds.LONE);
        Sentences.due("one of five", ArrayBounds.each(lone, lone::depth), -1, -1, 0, -1, -1);
        PulseGrid far = Bounds.grid("size 3 4; let x = x(0,3) + x(0,-3) + x(-1,-1);");
        Sentences.due("some", ArrayBounds.each(far, far::depth), -1, 0, 0, -1, -1, -1, 1, -1, -1, -1, -1, -1);
        PulseGrid sums = Bounds.grid("size 10 10; let x = x(-1,0) + x(0,-1);");
        Sentences.due("the last", sums.depth(9, 9), 18);
        Sentences.says(14, "or there is no such POINT");
        for (PulseGrid some : new PulseGrid[] {lone, sums, new PulseGrid()}) {
            for (int[] no : Bounds.noPoints(some)) {
                Sentences.due("depth(" + no[0] + ", " + no[1] + ")", some.depth(no[0], no[1]), -1);
            }
        }
    }

    private static void run() {
        Sentences.says(15, "What the RUN gives for a VARIABLE at a POINT");
        PulseGrid g = Bounds.grid(Bounds.SUMS);
        Sentences.due("at first", ArrayBounds.each(g, (i, j) -> g.run(0, i, j)), SUM_VALUES);
        g.fire(1, 0);
        Sentences.due("behind fire()", ArrayBounds.each(g, (i, j) -> g.run(0, i, j)), 2, 1, 1, 3, 1, 1, 4, 1, 1);
        g.onto(0, 1);
        Sentences.due("behind onto()", ArrayBounds.each(g, (i, j) -> g.run(0, i, j)), 2, 0, 0, 3, 0, 0, 4, 0, 0);
        g.broken(0, true);
        Sentences.due("behind broken()", ArrayBounds.each(g, (i, j) -> g.run(0, i, j)), 0, 0, 0, 1, 0, 0, 2, 0, 0);
        g.undo();
        Sentences.due("behind undo()", g.run(0, 2, 0), 4);
        g.redo();
        Sentences.due("behind redo()", g.run(0, 2, 0), 2);
        g.image(0);
        g.fire(1, 1);
        g.back(0);
        Sentences.due("behind back()", g.run(0, 2, 0), 2);
        g.busy(1, 4);
        Sentences.due("behind busy()", g.run(0, 2, 0), 2);
        g.stirs(0, 1, 0);
        g.fire(2, 0);
        Sentences.due("behind stirs()", g.run(0, 2, 0), 2);
        Check.write(g, "size 1 1; let q = 9;");
        g.loop();
        Sentences.due("behind loop()", g.run(0, 0, 0), 9);
        PulseGrid last = Bounds.grid("size 10 10; let a = 1; let b = 2; let c = i * 10 + j;");
        Sentences.due("the last", last.run(2, 9, 9), 99);
        Sentences.says(15, "0 if there are none such");
        for (int no : Bounds.noVariables(g)) {
            Sentences.due("run(" + no + ", 0, 0)", g.run(no, 0, 0), 0);
        }
        for (int[] no : Bounds.noPoints(last)) {
            Sentences.due("run(0, " + no[0] + ", " + no[1] + ")", last.run(0, no[0], no[1]), 0);
        }
        Sentences.due("of a new object", new PulseGrid().run(0, 0, 0), 0);
    }

    private static void wrong() {
        Sentences.says(16, "How many POINTS are WRONG.");
        PulseGrid g = Bounds.grid(Bounds.SUMS);
        Sentences.due("none", g.wrong(), 0);
        g.fire(1, 0);
        Sentences.due("some", g.wrong(), 6);
        g.fire(1, 1);
        g.broken(0, true);
        g.broken(1, true);
        g.broken(2, true);
        Sentences.due("all", g.wrong(), 9);
        Sentences.due("none has a value", Bounds.grid(Bounds.ROUND).wrong(), 0);
        Sentences.due("no variables", new PulseGrid().wrong(), 0);
        PulseGrid all = Bounds.grid("size 10 10; let x = 1 + x(0,-1) * 0; fire 0 0; onto 0 1;");
        Sentences.due("all but a column", all.wrong(), 90);
    }

    private static void tick() {
        Sentences.says(17, "TICK of a POINT");
        PulseGrid g = Bounds.grid("size 10 10; fire -9 9;");
        Sentences.due("corners", new int[] {g.tick(9, 0), g.tick(0, 0), g.tick(9, 9), g.tick(0, 9)}, 0, 81, 81, 162);
        g.fire(0, 0);
        Sentences.due("all at once", g.tick(9, 9), 0);
        g.undo();
        Sentences.due("taken back", g.tick(0, 9), 162);
        Sentences.says(17, "NONE if there is none such");
        for (PulseGrid some : new PulseGrid[] {g, Bounds.grid("size 2 3;"), new PulseGrid()}) {
            for (int[] no : Bounds.noPoints(some)) {
                Sentences.due("tick(" + no[0] + ", " + no[1] + ")", some.tick(no[0], no[1]), -1);
            }
        }
    }

    private static void cell() {
        Sentences.says(18, "CELL of a POINT");
        PulseGrid g = Bounds.grid("size 10 10; onto -3 2;");
        Sentences.due("the first and the last", new int[] {g.cell(0, 0), g.cell(9, 9)}, 0, 43);
        g.onto(3, -2);
        Sentences.due("the other way", new int[] {g.cell(0, 0), g.cell(9, 9)}, 43, 0);
        g.undo();
        Sentences.due("taken back", g.cell(9, 9), 43);
        Sentences.says(18, "NONE if there is none such");
        for (PulseGrid some : new PulseGrid[] {g, Bounds.grid("size 2 3;"), new PulseGrid()}) {
            for (int[] no : Bounds.noPoints(some)) {
                Sentences.due("cell(" + no[0] + ", " + no[1] + ")", some.cell(no[0], no[1]), -1);
            }
        }
    }

    private static void point() {
        Sentences.says(19, "The first POINT (i * 10 + j; by i, then j) of a CELL and a TICK");
        PulseGrid g = Bounds.grid("size 10 10; fire 1 1; onto 1 -1;");
        Sentences.due("the first of ten", g.point(9, 9), 9);
        Sentences.due("the last point", g.point(0, 18), 99);
        Sentences.due("the first point", g.point(18, 0), 0);
        g.fire(0, 0);
        g.onto(0, 1);
        Sentences.due("the first of a row", new int[] {g.point(0, 0), g.point(9, 0)}, 0, 90);
        Sentences.says(19, "NONE if there is none");
        Sentences.due("a cell, another tick", g.point(0, 1), -1);
        for (int no : Bounds.noCells(g)) {
            Sentences.due("point(" + no + ", 0)", g.point(no, 0), -1);
        }
        for (int no : new int[] {-1, 1, 162, 163, 256, Bounds.MIN, Bounds.MAX}) {
            Sentences.due("point(0, " + no + ")", g.point(0, no), -1);
        }
        PulseGrid small = Bounds.grid("size 1 1;");
        Sentences.due("what is no point any more", new int[] {small.point(-1, -1), small.point(0, 0), small.point(0, 1), small.point(1, 0)}, -1, 0, -1, -1);
        PulseGrid fewer = Bounds.grid("size 10 10;");
        Check.write(fewer, "size 2 2;");
        fewer.loop();
        Sentences.due("what was one in an earlier loop", new int[] {fewer.point(0, 18), fewer.point(2, 2), fewer.point(0, 2)}, -1, -1, 11);
    }

    private static void wave() {
        Sentences.says(20, "How many POINTS have a TICK");
        PulseGrid g = Bounds.grid("size 2 3; fire 2 -1;");
        int[] want = {1, 1, 2, 1, 1, 0, 0};
        for (int t = 0; t < want.length; t++) {
            Sentences.due("wave(" + t + ")", g.wave(t), want[t]);
        }
        Sentences.due("wave(MAX)", g.wave(Bounds.MAX), 0);
        PulseGrid longest = Bounds.grid("size 10 10; fire 9 9;");
        Sentences.due("the longest", new int[] {longest.wave(0), longest.wave(1), longest.wave(81), longest.wave(162), longest.wave(163)}, 1, 0, 10, 1, 0);
        longest.fire(0, 0);
        Sentences.due("all at once", new int[] {longest.wave(0), longest.wave(1), longest.wave(162)}, 100, 0, 0);
        Sentences.says(20, "NONE if it is below 0");
        for (int no : new int[] {-1, -2, -163, Bounds.MIN, Bounds.MIN + 1}) {
            Sentences.due("wave(" + no + ")", g.wave(no), -1);
        }
    }

    private static void busy() {
        Sentences.says(21, "Of a CELL what 0: how many POINTS it has");
        PulseGrid g = Bounds.grid("size 2 3; let x = 1; fire 2 -1; onto 1 1;");
        Sentences.due("cells of 1, 2, 2, 1", new int[] {g.busy(0, 0), g.busy(1, 0), g.busy(2, 0), g.busy(3, 0)}, 1, 2, 2, 1);
        Sentences.due("one cell of ten", Bounds.grid("size 1 10; onto 0 1;").busy(0, 0), 10);
        Sentences.says(21, "1: the TICK of its first one, 2: of its last one");
        Sentences.due("one point: first, last", new int[] {g.busy(0, 1), g.busy(0, 2), g.busy(3, 1), g.busy(3, 2)}, 0, 0, 4, 4);
        Sentences.due("two points", new int[] {g.busy(1, 1), g.busy(1, 2), g.busy(2, 1), g.busy(2, 2)}, 1, 2, 2, 3);
        g.fire(-2, 1);
        Sentences.due("backwards", new int[] {g.busy(1, 1), g.busy(1, 2), g.busy(2, 1), g.busy(2, 2)}, 2, 3, 1, 2);
        g.fire(0, 0);
        Sentences.due("at once", new int[] {g.busy(1, 1), g.busy(1, 2)}, 0, 0);
        Sentences.says(21, "3: 1 if it is BROKEN, else 0");
        g.broken(3, true);
        Sentences.due("the last is", new int[] {g.busy(0, 3), g.busy(1, 3), g.busy(2, 3), g.busy(3, 3)}, 0, 0, 0, 1);
        g.undo();
        Sentences.due("and is not", g.busy(3, 3), 0);
        wrongBeyond();
        Sentences.says(21, "-1000 if there is none such");
        for (int no : Bounds.noCells(g)) {
            for (int what = 0; what <= 4; what++) {
                Sentences.due("busy(" + no + ", " + what + ")", g.busy(no, what), -1000);
            }
        }
        Sentences.says(21, "or for another what");
        for (int no : Bounds.beyond(0, 4)) {
            Sentences.due("busy(0, " + no + ")", g.busy(0, no), -1000);
            Sentences.due("busy(9, " + no + ")", g.busy(9, no), -1000);
        }
    }

    private static void wrongBeyond() {
        Sentences.says(21, "4: POINTS that are WRONG beyond those that are, were it BROKEN, too (below 0: fewer)");
        PulseGrid sums = Bounds.grid(Bounds.SUMS);
        Sentences.due("none is broken", new int[] {sums.busy(0, 4), sums.busy(1, 4), sums.busy(2, 4)}, 3, 6, 9);
        Sentences.due("and none is then", new int[] {sums.about(10), sums.wrong(), sums.about(12)}, 0, 0, 0);
        sums.broken(1, true);
        Sentences.due("one is broken", new int[] {sums.busy(0, 4), sums.busy(1, 4), sums.busy(2, 4)}, 0, 0, 3);
        PulseGrid fewer = Bounds.grid("size 1 2; let x = (1 - x(0,-1)) > 0 edge -4; fire 0 -1;");
        Sentences.due("wrong", fewer.wrong(), 1);
        Sentences.due("fewer", fewer.busy(0, 4), -1);
        Sentences.due("none has a value", Bounds.grid(Bounds.ROUND).busy(0, 4), 0);
        Sentences.due("no variables", new PulseGrid().busy(0, 4), 0);
    }

    private static void plan() {
        PulseGrid one = new PulseGrid();
        PulseGrid g = Bounds.grid(Bounds.SUMS);
        Sentences.says(22, "What 0: 1 if the SCHEDULE is LAWFUL, else 0");
        Sentences.due("one point", one.plan(0), 1);
        Sentences.due("by 1 1", g.plan(0), 1);
        g.fire(1, 0);
        Sentences.due("by 1 0", g.plan(0), 0);
        Sentences.says(22, "1: LATENCY");
        Sentences.due("one point", one.plan(1), 1);
        Sentences.due("by 1 0", g.plan(1), 3);
        Sentences.says(22, "2: CELLS");
        Sentences.due("one point", one.plan(2), 1);
        Sentences.due("columns", g.plan(2), 3);
        g.onto(3, 1);
        Sentences.due("each its own", g.plan(2), 9);
        g.onto(1, 0);
        Sentences.says(22, "3: CLASHES");
        Sentences.due("none", g.plan(3), 0);
        g.fire(0, 1);
        Sentences.due("two of each three", g.plan(3), 6);
        g.fire(0, 0);
        Sentences.due("all at once", g.plan(3), 6);
        g.onto(3, 1);
        Sentences.due("at once, each its own cell", g.plan(3), 0);
        Sentences.due("the most", Bounds.grid("size 10 10; fire 0 0;").plan(3), 90);
        Sentences.says(22, "4: LATENCY times CELLS less POINTS that are no CLASH");
        Sentences.due("one point", one.plan(4), 0);
        Sentences.due("all at once, each its own cell", g.plan(4), 0);
        g.onto(1, 0);
        Sentences.due("three at once", g.plan(4), 0);
        g.fire(0, 1);
        Sentences.due("3 times 3 less 3", g.plan(4), 6);
        Sentences.due("the most", Bounds.grid("size 10 10; fire 9 9; onto 3 2;").plan(4), 163 * 44 - 100);
        Sentences.says(22, "5: the greatest DEPTH and 1 (0 if no POINT is ORDERED)");
        Sentences.due("one point", one.plan(5), 1);
        Sentences.due("sums", g.plan(5), 5);
        Sentences.due("one is", Bounds.grid(Bounds.LONE).plan(5), 1);
        Sentences.due("none is", Bounds.grid(Bounds.ROUND).plan(5), 0);
        Sentences.says(22, "6: POINTS that are not ORDERED");
        Sentences.due("none", new int[] {one.plan(6), g.plan(6)}, 0, 0);
        Sentences.due("some", Bounds.grid(Bounds.LONE).plan(6), 4);
        Sentences.due("all", Bounds.grid(Bounds.ROUND).plan(6), 4);
        Sentences.says(22, "NONE for another what");
        for (int no : Bounds.beyond(0, 6)) {
            Sentences.due("plan(" + no + ")", g.plan(no), -1);
        }
    }

    private static void offset() {
        PulseGrid g = Bounds.grid("size 4 5; let x = 1; let y = x(0,0) + y(-1,2) + x(3,0) + x(-1,2) + y(-3,-3); fire 2 -3; onto 3 2;");
        Sentences.says(23, "Of an OFFSET what 0: a, 1: b");
        Sentences.due("a", new int[] {g.offset(0, 0), g.offset(1, 0), g.offset(2, 0)}, -1, 3, -3);
        Sentences.due("b", new int[] {g.offset(0, 1), g.offset(1, 1), g.offset(2, 1)}, 2, 0, -3);
        Sentences.says(23, "2: how many POINTS read another POINT by it");
        Sentences.due("some", new int[] {g.offset(0, 2), g.offset(1, 2), g.offset(2, 2)}, 9, 5, 2);
        Sentences.due("none, too far down", Bounds.grid("size 3 9; let x = x(3,0);").offset(0, 2), 0);
        Sentences.due("none, too far aside", Bounds.grid("size 9 2; let x = x(-1,-3);").offset(0, 2), 0);
        Sentences.due("none, too far both ways", Bounds.grid("size 1 1; let x = x(-3,3);").offset(0, 2), 0);
        Sentences.due("one", Bounds.grid("size 4 4; let x = x(-3,3);").offset(0, 2), 1);
        Sentences.says(23, "3: b of the LINE times its a, less a of the LINE times its b");
        Sentences.due("by 3 2", new int[] {g.offset(0, 3), g.offset(1, 3), g.offset(2, 3)}, -8, 6, 3);
        Sentences.says(23, "4: by how many TICKS it leads back (below 0: ahead)");
        Sentences.due("by 2 -3", new int[] {g.offset(0, 4), g.offset(1, 4), g.offset(2, 4)}, 8, -6, -3);
        Sentences.says(23, "5: what 2 times what 4 tell (0, if what 4 is below 0)");
        Sentences.due("by 2 -3", new int[] {g.offset(0, 5), g.offset(1, 5), g.offset(2, 5)}, 72, 0, 0);
        g.fire(0, 1);
        Sentences.due("by 0 1: -2, 0, 3", new int[] {g.offset(0, 5), g.offset(1, 5), g.offset(2, 5)}, 0, 0, 6);
        Sentences.due("what 4 then", new int[] {g.offset(0, 4), g.offset(1, 4), g.offset(2, 4)}, -2, 0, 3);
        Sentences.says(23, "-1000 if there is none such");
        for (int what = 0; what <= 5; what++) {
            for (int no : Bounds.beyond(0, 2)) {
                Sentences.due("offset(" + no + ", " + what + ")", g.offset(no, what), -1000);
            }
            Sentences.due("by 0, 0 there is none", Bounds.grid("size 2 2; let x = 1; let y = x(0,0);").offset(0, what), -1000);
        }
        Sentences.due("12 is none", g.offset(12, 0), -1000);
        Sentences.says(23, "or for another what");
        for (int no : Bounds.beyond(0, 5)) {
            Sentences.due("offset(0, " + no + ")", g.offset(0, no), -1000);
        }
    }

    private static void flow() {
        PulseGrid g = Bounds.grid("size 2 2; let x = 1; let y = x(-1,0) + x(-1,0) + y(0,-1) + x(0,0);");
        Sentences.says(24, "At a TICK how many READS by POINTS that are no CLASH are of EDGES (what 0)");
        Sentences.due("each read", new int[] {g.flow(0, 0), g.flow(1, 0), g.flow(2, 0)}, 3, 3, 0);
        Sentences.due("a tick without points", new int[] {g.flow(3, 0), g.flow(1000, 0), g.flow(Bounds.MAX, 0)}, 0, 0, 0);
        Sentences.due("all reads", Bounds.grid("size 1 1; let a = a(1,0) + a(0,1) + a(1,1);").flow(0, 0), 3);
        Sentences.due("all of twelve reads", Bounds.grid("size 1 1; let a = 1" + "+a(1,0)".repeat(12) + ";").flow(0, 0), 12);
        g.fire(0, 0);
        Sentences.due("not those of clashes", g.flow(0, 0), 5);
        Sentences.says(24, "how many such POINTS there are on which none hangs (1)");
        Sentences.due("not those that clash", g.flow(0, 1), 0);
        g.fire(1, 1);
        Sentences.due("the last alone", new int[] {g.flow(0, 1), g.flow(1, 1), g.flow(2, 1), g.flow(3, 1), g.flow(Bounds.MAX, 1)}, 0, 0, 1, 0, 0);
        PulseGrid none = Bounds.grid("size 2 3; fire 0 1; onto 0 1;");
        Sentences.due("none reads", new int[] {none.flow(0, 1), none.flow(2, 1), none.flow(0, 0)}, 2, 2, 0);
        none.onto(1, 0);
        Sentences.due("none reads, half are clashes", none.flow(2, 1), 1);
        Sentences.says(24, "NONE if the TICK is below 0");
        for (int no : new int[] {-1, -2, Bounds.MIN, Bounds.MIN + 1}) {
            Sentences.due("flow(" + no + ", 0)", g.flow(no, 0), -1);
            Sentences.due("flow(" + no + ", 1)", g.flow(no, 1), -1);
        }
        Sentences.says(24, "or for another what");
        for (int no : Bounds.beyond(0, 1)) {
            Sentences.due("flow(0, " + no + ")", g.flow(0, no), -1);
            Sentences.due("flow(MAX, " + no + ")", g.flow(Bounds.MAX, no), -1);
        }
    }
}
