/** Boundary cases of what the document's terms say of points, schedules, lines, the run, workers and acts. */
final class ArrayBounds {
    private static final String TERMS = "Terms";

    private ArrayBounds() {
    }

    static void test() {
        none();
        points();
        variablesInOrder();
        reads();
        offsetNumbers();
        hangs();
        ordered();
        depth();
        values();
        ticks();
        latency();
        lawful();
        cells();
        clashes();
        runs();
        workers();
        acts();
    }

    static int[] each(PulseGrid g, java.util.function.IntBinaryOperator of) {
        int[] all = new int[g.about(0) * g.about(1)];
        for (int k = 0; k < all.length; k++) {
            all[k] = of.applyAsInt(k / g.about(1), k % g.about(1));
        }
        return all;
    }

    private static void none() {
        Sentences.says(TERMS, "The constants: `NONE = -1`: There is none.");
        Sentences.due("NONE", PulseGrid.NONE, -1);
    }

    private static void points() {
        Sentences.says(TERMS, "POINTS are all i (0 .. ROWS - 1), j (0 .. COLUMNS - 1)");
        for (String size : new String[] {"1 1", "2 3", "3 2", "10 1", "1 10", "10 10"}) {
            PulseGrid g = Bounds.grid("size " + size + ";");
            for (int i = -2; i <= 11; i++) {
                for (int j = -2; j <= 11; j++) {
                    boolean is = i >= 0 && j >= 0 && i < g.about(0) && j < g.about(1);
                    Sentences.due("size " + size + ": ordered(" + i + ", " + j + ")", g.ordered(i, j), is ? 1 : -1);
                }
            }
            for (int[] no : Bounds.noPoints(g)) {
                Sentences.due("size " + size + ": ordered(" + no[0] + ", " + no[1] + ")", g.ordered(no[0], no[1]), -1);
            }
        }
    }

    private static void variablesInOrder() {
        Sentences.says(TERMS, "At a POINT the VARIABLES are reckoned in their order");
        PulseGrid g = Bounds.grid("size 2 2; let a = i + 1; let b = a(0,0) * 10; let c = b(0,0) + a(0,0);");
        Sentences.due("values of the first", each(g, (i, j) -> g.value(0, i, j)), 1, 1, 2, 2);
        Sentences.due("values of the last", each(g, (i, j) -> g.value(2, i, j)), 11, 11, 22, 22);
    }

    private static void reads() {
        Sentences.says(TERMS, "a READ at an OFFSET a, b is that VARIABLE at i + a, j + b: its VALUE there, or, if there is no such POINT, its EDGE"
                + " for i + a and j + b.");
        for (int a = -3; a <= 3; a++) {
            for (int b = -3; b <= 3; b++) {
                PulseGrid g = Bounds.grid("size 4 3; let x = 10 * i + j edge 100 * i - j; let y = x(" + a + "," + b + ") edge 5;");
                for (int i = 0; i < 4; i++) {
                    for (int j = 0; j < 3; j++) {
                        boolean is = i + a >= 0 && i + a < 4 && j + b >= 0 && j + b < 3;
                        int want = is ? 10 * (i + a) + j + b : 100 * (i + a) - (j + b);
                        Sentences.due("x(" + a + "," + b + ") at " + i + ", " + j, g.value(1, i, j), want);
                    }
                }
            }
        }
    }

    private static void offsetNumbers() {
        Sentences.says(TERMS, "OFFSETS that are READ, but 0, 0, each once, are numbered as they first stand in the text.");
        PulseGrid g = Bounds.grid("size 1 1; let a = 1; let b = a(0,0) + a(-1,0) + b(0,-1) + a(-1,0); let c = b(0,-1) + c(1,1) + c(1,-1);");
        Sentences.due("how many", g.about(3), 4);
        int[][] want = {{-1, 0}, {0, -1}, {1, 1}, {1, -1}};
        for (int k = 0; k < 4; k++) {
            Sentences.due("offset " + k, new int[] {g.offset(k, 0), g.offset(k, 1)}, want[k]);
        }
        Sentences.due("none by 0, 0", Bounds.grid("size 1 1; let a = 1; let b = a(0,0);").about(3), 0);
        StringBuilder twelve = new StringBuilder("size 1 1; let a = 1");
        for (int k = 0; k < 12; k++) {
            twelve.append("+a(").append(k / 4 - 3).append(',').append(k % 4).append(')');
        }
        PulseGrid full = Bounds.grid(twelve + ";");
        Sentences.due("twelve", full.about(3), 12);
        Sentences.due("the last", new int[] {full.offset(11, 0), full.offset(11, 1)}, -1, 3);
    }

    private static void hangs() {
        Sentences.says(TERMS, "A POINT HANGS on those that it reads (by any OFFSET).");
        Sentences.due("by what is taken 0 times", Bounds.grid("size 1 2; let x = x(0,1) * 0;").depth(0, 0), 1);
        Sentences.due("whatever variable it reads", Bounds.grid("size 1 2; let x = 1; let y = x(0,1) + x(0,-1);").ordered(0, 0), 0);
        Sentences.due("not on itself by 0, 0", Bounds.grid("size 1 1; let x = 1; let y = x(0,0);").ordered(0, 0), 1);
        Sentences.due("not on what is no point", Bounds.grid("size 1 1; let x = x(0,1) + x(0,-1);").near(0, 0, 0), 0);
        Sentences.due("on none", Bounds.grid("size 2 2; let x = 1;").near(1, 1, 0), 0);
    }

    private static void ordered() {
        Sentences.says(TERMS, "It is ORDERED, if it does not hang on itself by any row of these, nor on one that does");
        PulseGrid round = Bounds.grid(Bounds.ROUND);
        Sentences.due("rows of two", each(round, round::ordered), 0, 0, 0, 0);
        PulseGrid three = Bounds.grid("size 2 2; let x = x(1,0) + x(-1,1) + x(0,-1);");
        Sentences.due("a row of three, and one that hangs on it", each(three, three::ordered), 0, 0, 0, 0);
        PulseGrid lone = Bounds.grid(Bounds.LONE);
        Sentences.due("one aside", each(lone, lone::ordered), 0, 0, 1, 0, 0);
        PulseGrid corner = Bounds.grid(Bounds.CORNER);
        Sentences.due("one on which such hang", each(corner, corner::ordered), 1, 0, 0, 0, 0, 0);
        PulseGrid far = Bounds.grid("size 3 4; let x = x(0,3) + x(0,-3) + x(-1,-1);");
        Sentences.due("by rows of any length", each(far, far::ordered), 0, 1, 1, 0, 0, 0, 1, 0, 0, 0, 0, 0);
        PulseGrid all = Bounds.grid("size 2 2; let x = x(-1,0) + x(1,-1);");
        Sentences.due("none hangs on itself", each(all, all::ordered), 1, 1, 1, 1);
    }

    private static void depth() {
        Sentences.says(TERMS, "DEPTH: 0 if it hangs on none, else 1 more than the greatest DEPTH of those it hangs on.");
        PulseGrid none = Bounds.grid("size 2 2; let x = 1;");
        Sentences.due("hangs on none", each(none, none::depth), 0, 0, 0, 0);
        PulseGrid row = Bounds.grid("size 1 10; let x = x(0,-1);");
        Sentences.due("a row", each(row, row::depth), 0, 1, 2, 3, 4, 5, 6, 7, 8, 9);
        PulseGrid two = Bounds.grid("size 1 6; let x = x(0,-3) + x(0,-2);");
        Sentences.due("the greatest of two", each(two, two::depth), 0, 0, 1, 1, 2, 2);
        PulseGrid far = Bounds.grid("size 3 3; let x = x(-3,0) + x(0,3);");
        Sentences.due("reads beyond all points", each(far, far::depth), 0, 0, 0, 0, 0, 0, 0, 0, 0);
    }

    private static void values() {
        Sentences.says(TERMS, "VALUES are those of POINTS that are ORDERED; others have none.");
        PulseGrid lone = Bounds.grid(Bounds.LONE);
        Sentences.due("values", each(lone, (i, j) -> lone.value(0, i, j)), 0, 0, 1, 0, 0);
        Sentences.due("together", lone.total(0, 0), 1);
        Sentences.due("the greatest is at", lone.total(0, 3), 2);
        PulseGrid corner = Bounds.grid(Bounds.CORNER);
        Sentences.due("what hangs on what has none", each(corner, (i, j) -> corner.value(0, i, j)), 1, 0, 0, 0, 0, 0);
    }

    private static void ticks() {
        Sentences.says(TERMS, "A SCHEDULE p, q: the TICK of a POINT is p * i + q * j, less the least of these of all POINTS.");
        PulseGrid g = Bounds.grid("size 2 3;");
        g.fire(2, 1);
        Sentences.due("2 1", each(g, g::tick), 0, 1, 2, 2, 3, 4);
        g.fire(2, -1);
        Sentences.due("2 -1", each(g, g::tick), 2, 1, 0, 4, 3, 2);
        g.fire(-2, 1);
        Sentences.due("-2 1", each(g, g::tick), 2, 3, 4, 0, 1, 2);
        g.fire(-2, -1);
        Sentences.due("-2 -1", each(g, g::tick), 4, 3, 2, 2, 1, 0);
        g.fire(0, 0);
        Sentences.due("0 0", each(g, g::tick), 0, 0, 0, 0, 0, 0);
        g.fire(9, -9);
        Sentences.due("9 -9", each(g, g::tick), 18, 9, 0, 27, 18, 9);
        Sentences.due("one point", Bounds.grid("size 1 1; fire -9 9;").tick(0, 0), 0);
    }

    private static void latency() {
        Sentences.says(TERMS, "LATENCY: the greatest TICK and 1.");
        Sentences.due("one point", Bounds.grid("size 1 1; fire 9 9;").plan(1), 1);
        Sentences.due("all at once", Bounds.grid("size 10 10; fire 0 0;").plan(1), 1);
        Sentences.due("10 by 10 by 1 1", Bounds.grid("size 10 10;").plan(1), 19);
        for (String fire : new String[] {"9 9", "-9 9", "9 -9", "-9 -9"}) {
            Sentences.due("the longest, by " + fire, Bounds.grid("size 10 10; fire " + fire + ";").plan(1), 163);
        }
        Sentences.due("a row", Bounds.grid("size 1 10; fire 9 -2;").plan(1), 19);
    }

    private static void lawful() {
        Sentences.says(TERMS, "It is LAWFUL, if p * a + q * b is below 0 for each OFFSET.");
        PulseGrid g = Bounds.grid("size 1 1; let x = x(-1,2) + x(0,-3);");
        int[][] fires = {{3, 1}, {2, 1}, {1, 1}, {1, 0}, {1, -1}, {0, 0}, {9, 4}, {9, 5}, {-1, -1}};
        int[] want = {1, 0, 0, 0, 0, 0, 1, 0, 0};
        for (int k = 0; k < want.length; k++) {
            Sentences.due("fire(" + fires[k][0] + ", " + fires[k][1] + ")", g.fire(fires[k][0], fires[k][1]), want[k]);
            Sentences.due("plan(0) then", g.plan(0), want[k]);
        }
        Sentences.due("without an offset", Bounds.grid("size 2 2; let x = 1; let y = x(0,0); fire -9 0;").plan(0), 1);
        Sentences.due("an offset that no point reads by counts", Bounds.grid("size 1 1; let x = x(1,0);").plan(0), 0);
    }

    private static void cells() {
        Sentences.says(TERMS, "A LINE a, b: POINTS are done by CELLS; those with the same b * i - a * j have one; CELLS are numbered from 0 by these,"
                + " the least first, of those that there are.");
        PulseGrid g = Bounds.grid("size 2 3;");
        int[][] lines = {{1, 0}, {-1, 0}, {0, 1}, {0, -1}, {1, 1}, {1, -1}, {-1, 2}, {-3, 2}, {3, 1}};
        int[][] want = {{2, 1, 0, 2, 1, 0}, {0, 1, 2, 0, 1, 2}, {0, 0, 0, 1, 1, 1}, {1, 1, 1, 0, 0, 0}, {2, 1, 0, 3, 2, 1},
            {3, 2, 1, 2, 1, 0}, {0, 1, 2, 2, 3, 4}, {0, 2, 4, 1, 3, 5}, {4, 2, 0, 5, 3, 1}};
        for (int k = 0; k < lines.length; k++) {
            int count = g.onto(lines[k][0], lines[k][1]);
            String line = lines[k][0] + " " + lines[k][1];
            Sentences.due("cells by " + line, each(g, g::cell), want[k]);
            int last = 0;
            for (int cell : want[k]) {
                last = Math.max(last, cell);
            }
            Sentences.due("how many by " + line, count, last + 1);
        }
        Sentences.due("one point", Bounds.grid("size 1 1; onto 3 2;").cell(0, 0), 0);
        Sentences.due("the most there can be", Bounds.grid("size 10 10; onto 3 -2;").plan(2), 44);
    }

    private static void clashes() {
        Sentences.says(TERMS, "A CLASH: a POINT for which there is another one of the same CELL and TICK ahead of it (by i, then j).");
        PulseGrid g = Bounds.grid("size 2 3; let x = 1;");
        g.fire(0, 0);
        Sentences.due("all of a column but the first", each(g, (i, j) -> g.run(0, i, j)), 1, 1, 1, 0, 0, 0);
        Sentences.due("how many", g.plan(3), 3);
        g.onto(0, -1);
        Sentences.due("all of a row but the first", each(g, (i, j) -> g.run(0, i, j)), 1, 0, 0, 1, 0, 0);
        Sentences.due("how many of these", g.plan(3), 4);
        g.onto(1, -1);
        g.fire(1, 1);
        Sentences.due("by i, then j", each(g, (i, j) -> g.run(0, i, j)), 1, 1, 1, 0, 0, 1);
        g.onto(1, -2);
        g.fire(2, 1);
        Sentences.due("two steps aside", each(g, (i, j) -> g.run(0, i, j)), 1, 1, 1, 0, 1, 1);
        g.fire(2, 2);
        Sentences.due("one cell, another tick", g.plan(3), 0);
        g.onto(1, 0);
        g.fire(1, 0);
        Sentences.due("one tick, other cells", g.plan(3), 0);
    }

    private static void runs() {
        Sentences.says(TERMS, "The array RUNS: TICK by TICK, at each all its POINTS that are no CLASH (by i, then j)");
        PulseGrid g = Bounds.grid(Bounds.SUMS);
        Sentences.due("a lawful one", each(g, (i, j) -> g.run(0, i, j)), 2, 3, 4, 3, 6, 10, 4, 10, 20);
        Sentences.says(TERMS, "a READ of a POINT that was done at an earlier TICK is what was done there, of another one 0 (but of 0, 0 what was done"
                + " just now), beyond all POINTS its EDGE.");
        String left = "size 1 2; let x = 5 + x(0,-1) edge 100; let y = x(0,0) * 2; fire ";
        Sentences.due("one tick earlier", Bounds.grid(left + "0 1;").run(0, 0, 1), 110);
        Sentences.due("nine ticks earlier", Bounds.grid(left + "0 9;").run(0, 0, 1), 110);
        Sentences.due("at the same tick, though ahead by j", Bounds.grid(left + "1 0;").run(0, 0, 1), 5);
        Sentences.due("at a later tick", Bounds.grid(left + "0 -1;").run(0, 0, 1), 5);
        Sentences.due("of 0, 0 just now", Bounds.grid(left + "0 -1;").run(1, 0, 1), 10);
        Sentences.due("the edge at the first tick", Bounds.grid(left + "0 1;").run(0, 0, 0), 105);
        Sentences.due("the edge at the last tick", Bounds.grid(left + "0 -9;").run(0, 0, 0), 105);
        PulseGrid round = Bounds.grid(Bounds.ROUND);
        Sentences.due("points that are not ordered run, too", each(round, (i, j) -> round.run(0, i, j)), 1, 1, 2, 2);
        runsOfZero();
        wrong();
    }

    private static void runsOfZero() {
        Sentences.says(TERMS, "A POINT that is a CLASH, or whose CELL is BROKEN, gives 0 for each VARIABLE, and counts as done.");
        PulseGrid g = Bounds.grid("size 1 2; let x = 5 edge 50; let y = 6 + x(0,-1);");
        g.broken(g.cell(0, 0), true);
        Sentences.due("a broken one", new int[] {g.run(0, 0, 0), g.run(1, 0, 0)}, 0, 0);
        Sentences.due("what reads it reads 0", new int[] {g.run(0, 0, 1), g.run(1, 0, 1)}, 5, 6);
        g.broken(g.cell(0, 0), false);
        Sentences.due("mended", new int[] {g.run(0, 0, 0), g.run(1, 0, 0), g.run(1, 0, 1)}, 5, 56, 11);
        PulseGrid clash = Bounds.grid("size 1 3; let x = 5; let y = 6 + x(0,-2); fire 1 0; onto 0 1;");
        Sentences.due("clashes, x", each(clash, (i, j) -> clash.run(0, i, j)), 5, 0, 0);
        Sentences.due("clashes, y", each(clash, (i, j) -> clash.run(1, i, j)), 6, 0, 0);
        clash.broken(0, true);
        Sentences.due("a clash of a broken cell", each(clash, (i, j) -> clash.run(0, i, j)), 0, 0, 0);
        PulseGrid read = Bounds.grid("size 2 2; let x = 5 + x(1,-1) edge 50; fire 0 1; onto 1 0;");
        Sentences.due("a clash that is read is 0", each(read, (i, j) -> read.run(0, i, j)), 55, 5, 0, 0);
        PulseGrid last = Bounds.grid("size 10 10; let x = 1; onto 3 -2;");
        last.broken(43, true);
        Sentences.due("the last of the most cells", last.wrong(), 1);
    }

    private static void wrong() {
        Sentences.says(TERMS, "WRONG is a POINT with a VALUE of which some VARIABLE's is another one by the RUN.");
        PulseGrid round = Bounds.grid(Bounds.ROUND);
        Sentences.due("one without a value is not", round.wrong(), 0);
        PulseGrid lone = Bounds.grid(Bounds.LONE);
        lone.broken(lone.cell(0, 2), true);
        Sentences.due("one with a value among others", lone.wrong(), 1);
        Sentences.due("one variable is enough, the first", Bounds.grid("size 1 2; let x = 1 + x(0,-1); let y = 1; fire 0 0;").wrong(), 1);
        Sentences.due("one variable is enough, the last", Bounds.grid("size 1 2; let x = 1; let y = 1; let z = 1 + z(0,-1); fire 0 0;").wrong(), 1);
        Sentences.due("0 that is due, too, is not", Bounds.grid("size 2 2; let x = 0; fire 0 0;").wrong(), 0);
        Sentences.due("without variables", Bounds.grid("size 2 2; fire 0 0;").wrong(), 0);
    }

    private static void workers() {
        Sentences.says(TERMS, "WORKERS, 1 .. 12 (1 at first), do what CELLS do");
        PulseGrid g = Bounds.grid("size 1 7; fire 0 0;");
        Sentences.due("at first", g.about(9), 1);
        Sentences.due("workers(12)", g.workers(12), 1);
        Sentences.due("workers(13)", g.workers(13), Bounds.NONE);
        Sentences.due("workers(1)", g.workers(1), 12);
        Sentences.due("workers(0)", g.workers(0), Bounds.NONE);
        Sentences.says(TERMS, "in BLOCKS: CELL c is that of WORKER c / (CELLS by WORKERS, rounded up)");
        int[] sevenths = {7, 4, 3, 2, 2, 2, 1, 1, 1, 1, 1, 1};
        for (int n = 1; n <= 12; n++) {
            Sentences.due("7 cells at once, beats(" + n + ", false)", g.beats(n, false), sevenths[n - 1]);
        }
        // Cells 0 and 1, then 2 and 3 have a tick in common; 6 cells, blocks of 2.
        PulseGrid six = Bounds.grid("size 2 3; fire 0 1; onto 3 -1;");
        Sentences.due("6 cells", six.plan(2), 6);
        Sentences.due("blocks of 2", six.beats(3, false), 6);
        Sentences.due("rounded up to 2", six.beats(4, false), 6);
        Sentences.due("rounded up to 2 by 5", six.beats(5, false), 6);
        Sentences.due("blocks of 1", six.beats(6, false), 3);
        Sentences.says(TERMS, "in TURN: c modulo WORKERS");
        for (int n = 1; n <= 12; n++) {
            Sentences.due("7 cells at once, beats(" + n + ", true)", g.beats(n, true), sevenths[n - 1]);
        }
        Sentences.due("2 in turn", six.beats(2, true), 3);
        Sentences.due("1 alone", six.beats(1, true), 6);
        Sentences.says(TERMS, "TICKS are gone through one behind another, each takes as many BEATS as the WORKER that has most POINTS of it (CLASHES,"
                + " too).");
        PulseGrid sums = Bounds.grid(Bounds.SUMS);
        Sentences.due("ticks of 1, 2, 3, 2, 1 points by 3", sums.beats(3, true), 5);
        sums.fire(0, 0);
        Sentences.due("three in a cell at once", sums.beats(12, true), 3);
        sums.fire(9, 0);
        Sentences.due("ticks without a point take none", sums.beats(12, true), 3);
        Sentences.due("one point", Bounds.grid("").beats(1, false), 1);
    }

    private static void acts() {
        Sentences.says(TERMS, "ACTS are fire(), onto(), workers(), broken(), where they are not refused");
        PulseGrid g = Bounds.grid(Bounds.SUMS);
        int[] answers = {g.fire(10, 0), g.onto(0, 0), g.workers(0), g.broken(3, true), g.broken(0, false)};
        Sentences.due("refused ones", answers, -1, -1, -1, -1, -1);
        Sentences.due("are none", g.about(12), 0);
        g.fire(1, 1);
        g.onto(1, 0);
        g.workers(1);
        Sentences.due("those that change nothing are", g.about(12), 3);
        g.broken(0, true);
        Sentences.due("four", g.about(12), 4);
        g.image(0);
        g.feed(0, 0, 0, 0, 0);
        g.end(3);
        g.law();
        g.busy(0, 4);
        g.best(9, 1);
        Sentences.due("others are none", g.about(12), 4);
        Sentences.says(TERMS, "UNDO takes back the latest ACT that was not, REDO does that again which was taken back last (till another ACT)");
        g = Bounds.grid(Bounds.SUMS);
        g.workers(2);
        g.workers(3);
        g.workers(4);
        int[] workers = new int[8];
        for (int k = 0; k < 8; k++) {
            boolean moved = k < 4 ? g.undo() : g.redo();
            workers[k] = moved ? g.about(9) : Bounds.NONE;
        }
        Sentences.due("undo() four times, redo() four times", workers, 3, 2, 1, -1, 2, 3, 4, -1);
        g.undo();
        g.undo();
        g.workers(13);
        Sentences.due("a refused act leaves them", g.about(13), 2);
        g.workers(7);
        Sentences.due("another act does not", g.about(13), 0);
        Sentences.due("redo() then", g.redo(), false);
        Sentences.due("undo() of it", g.undo() ? g.about(9) : Bounds.NONE, 2);
        twentyActs();
    }

    private static void twentyActs() {
        Sentences.says(TERMS, "20 at most are kept, the oldest go.");
        for (int acts = 19; acts <= 45; acts++) {
            PulseGrid g = Bounds.grid(Bounds.SUMS);
            for (int k = 1; k <= acts; k++) {
                g.fire(k % 10, k / 10);
            }
            int kept = Math.min(20, acts);
            Sentences.due(acts + " acts, kept", g.about(12), kept);
            int undone = 0;
            while (undone < 30 && g.undo()) {
                undone++;
            }
            Sentences.due(acts + " acts, taken back", undone, kept);
            int first = acts - kept;
            int[] want = first == 0 ? new int[] {1, 1} : new int[] {first % 10, first / 10};
            Sentences.due(acts + " acts, all taken back", new int[] {g.about(5), g.about(6)}, want);
            Sentences.due(acts + " acts, to do again", g.about(13), kept);
            int again = 0;
            while (again < 30 && g.redo()) {
                again++;
            }
            Sentences.due(acts + " acts, done again", again, kept);
            Sentences.due(acts + " acts, all done again", new int[] {g.about(5), g.about(6)}, acts % 10, acts / 10);
        }
    }
}
