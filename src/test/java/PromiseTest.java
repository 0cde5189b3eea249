/** Each promise of the document by examples reckoned by hand: ordinary inputs, edges, wrong inputs. */
public final class PromiseTest {
    private static final int MIN = Integer.MIN_VALUE;
    private static final int MAX = Integer.MAX_VALUE;
    /**
     * Its values, row by row: 2 3 4, 3 6 10, 4 10 20.
     */
    private static final String SUMS = "size 3 3; let x = x(-1,0) + x(0,-1) edge 1;";
    /** Each point hangs on the one below or above it, which hangs on it: none is ordered. */
    private static final String ROUND = "size 2 2; let y = y(1,0) + y(-1,0) + 1;";

    private PromiseTest() {
    }

    public static void main(String[] args) {
        constants();
        newObject();
        feed();
        end();
        loop();
        fault();
        fire();
        onto();
        workers();
        broken();
        undoAndRedo();
        value();
        orderedAndDepth();
        run();
        wrong();
        tickAndWave();
        cell();
        point();
        busy();
        plan();
        offset();
        flow();
        best();
        line();
        pair();
        beats();
        fewest();
        heightAndCritical();
        wrongAt();
        peak();
        tiles();
        tiling();
        near();
        idle();
        hangs();
        stirs();
        stirred();
        total();
        law();
        imageAndBack();
        about();
        Check.finish("PromiseTest");
    }

    private static void due(String call, long got, long want) {
        Check.due(call, got, want);
    }

    private static PulseGrid grid(String text) {
        PulseGrid g = new PulseGrid();
        Check.write(g, text);
        if (g.loop() < 0) {
            due("loop() of " + text, g.fault(0) * 1000 + g.fault(1), 0);
        }
        return g;
    }

    private static void constants() {
        due("NONE", PulseGrid.NONE, -1);
    }

    private static void newObject() {
        PulseGrid g = new PulseGrid();
        int[] want = {1, 1, 0, 0, 0, 1, 1, 1, 0, 1, 0, 0, 0, 0, 0};
        for (int k = 0; k < want.length; k++) {
            due("new: about(" + k + ")", g.about(k), want[k]);
        }
        due("new: ordered(0, 0)", g.ordered(0, 0), 1);
        due("new: plan(6)", g.plan(6), 0);
        due("new: back(1)", g.back(1), -1);
    }

    private static void feed() {
        PulseGrid g = new PulseGrid();
        for (int k = 1; k <= 40; k++) {
            due("feed " + k, g.feed(0x20202020, 0x0a0a0a0a, 0x20202020, 0x20202020, 0x20202020), 20 * k);
        }
        due("feed beyond 800", g.feed(0, 0, 0, 0, 0), -1);
        due("about(14) when full", g.about(14), 800);
        g.end(781);
        due("feed at 781", g.feed(0, 0, 0, 0, 0), -1);
        due("about(14) at 781", g.about(14), 781);
        g.end(780);
        due("feed at 780", g.feed(0x20202020, 0x20202020, 0x20202020, 0x20202020, 0x20202020), 800);
        due("loop() of blanks", g.loop(), 0);
        // The highest byte of each number comes first: "size 4 5;let x = i;;"
        due("feed a text", g.feed(0x73697a65, 0x20342035, 0x3b6c6574, 0x2078203d, 0x20693b3b), 20);
        g.end(19);
        due("loop() of it", g.loop(), 1);
        due("its rows", g.about(0), 4);
        due("its columns", g.about(1), 5);
        due("its x(3,0)", g.value(0, 3, 0), 3);
    }

    private static void end() {
        PulseGrid g = new PulseGrid();
        due("end(0) of none", g.end(0), 0);
        due("end(1) of none", g.end(1), -1);
        g.feed(0, 0, 0, 0, 0);
        due("end(21)", g.end(21), -1);
        due("end(-1)", g.end(-1), -1);
        due("end(MIN)", g.end(MIN), -1);
        due("end(MAX)", g.end(MAX), -1);
        due("about(14) as it was", g.about(14), 20);
        due("end(20)", g.end(20), 20);
        due("end(7)", g.end(7), 7);
        due("end(8) then", g.end(8), -1);
        due("about(14) then", g.about(14), 7);
    }

    private static void loop() {
        PulseGrid g = grid("size 3 4; let x = 1; let yy = x(0,0) edge 2; let z = 3;fire -9 9; onto -2 3;");
        int[] want = {3, 4, 3, 0, 1, -9, 9, -2, 3, 1, 0, 4, 0, 0, 0};
        for (int k = 0; k < want.length; k++) {
            due("loop: about(" + k + ")", g.about(k), want[k]);
        }
        g.workers(5);
        g.broken(0, true);
        g.image(0);
        Check.write(g, "size 2 2; let x = $;");
        due("loop() with a fault", g.loop(), -1);
        due("all stays: variables", g.about(2), 3);
        due("all stays: workers", g.about(9), 5);
        due("all stays: broken", g.about(10), 1);
        due("all stays: acts", g.about(12), 2);
        due("the tape is empty all the same", g.about(14), 0);
        due("all stays: the box", g.back(0), 9 * 2 + 9 * 3 + 1);
        g.workers(7);
        g.undo();
        Check.write(g, SUMS);
        due("loop() of sums", g.loop(), 1);
        due("one worker", g.about(9), 1);
        due("none broken", g.about(10), 0);
        due("nothing to take back", g.about(12), 0);
        due("nothing to do again", g.about(13), 0);
        due("schedule if not told", g.about(5) * 10 + g.about(6), 11);
        due("line if not told", g.about(7) * 10 + g.about(8), 10);
        due("the box is empty", g.back(0), -1);
        due("the tape is empty", g.about(14), 0);
        due("loop() of an empty tape", g.loop(), 0);
        due("one point", g.about(0) * g.about(1), 1);
        due("value of the variable that was", g.value(0, 0, 0), 0);
    }

    private static void faultOf(String text, int want, int place) {
        PulseGrid g = new PulseGrid();
        Check.write(g, text);
        due("about(14): " + text, g.about(14), text.length());
        int got = g.loop();
        due("fault(0): " + text, g.fault(0), want);
        due("fault(1): " + text, g.fault(1), place);
        if (want != 0) {
            due("loop(): " + text, got, -1);
        }
    }

    private static void fine(String text) {
        faultOf(text, 0, -1);
    }

    private static void fault() {
        PulseGrid g = new PulseGrid();
        due("fault(0) ahead of any", g.fault(0), 0);
        due("fault(1) ahead of any", g.fault(1), -1);
        due("fault(2)", g.fault(2), -1);
        due("fault(-1)", g.fault(-1), -1);
        Check.write(g, "x");
        g.loop();
        due("fault(0) of x", g.fault(0), 1);
        due("fault(2) of x", g.fault(2), -1);
        Check.write(g, "size 1 1;");
        g.loop();
        due("fault(0) of the latest", g.fault(0), 0);
        due("fault(1) of the latest", g.fault(1), -1);
        strayTokens();
        badNumbers();
        badNames();
        tooMany();
        leastAtOnePlace();
    }

    private static void strayTokens() {
        fine("");
        fine(" \n ");
        fine("size10\n10;");
        faultOf("Size 1 1;", 1, 0);
        faultOf("sizes 1 1;", 1, 0);
        faultOf("fire 1 1; size 1 1;", 1, 0);
        faultOf("size -1 1;", 1, 5);
        faultOf("size 1 1,", 1, 8);
        faultOf("size 1 1;;", 1, 9);
        faultOf("size 1 1; size 1 1;", 1, 10);
        faultOf("size 1 1; foo", 1, 10);
        faultOf("size 1 1; i", 1, 10);
        faultOf("size 1 1; \t", 1, 10);
        faultOf("size 1 1; \0", 1, 10);
        faultOf("size 1 1; \u00ff", 1, 10);
        faultOf("size 1", 1, 6);
        faultOf("size 1 1; let x = 1  ", 1, 21);
        faultOf("size 1 1; let", 1, 13);
        for (String word : new String[] {"size", "let", "fire", "onto", "edge", "i", "j"}) {
            faultOf("size 1 1; let " + word + " = 1;", 1, 14);
        }
        fine("size 1 1; let ij = i * j; let sizes = 1; let e = 2;");
        faultOf("size 1 1; let 1 = 1;", 1, 14);
        faultOf("size 1 1; let x 1;", 1, 16);
        faultOf("size 1 1; let x = ;", 1, 18);
        faultOf("size 1 1; let x = x;", 1, 19);
        faultOf("size 1 1; let x = 1 2;", 1, 20);
        faultOf("size 1 1; let x = 1 edge ;", 1, 25);
        faultOf("size 1 1; let x = 1 edge 1 edge 1;", 1, 27);
        faultOf("size 1 1; let x = edge 1;", 1, 18);
        faultOf("size 1 1; let x = (1;", 1, 20);
        faultOf("size 1 1; let x = 1);", 1, 19);
        faultOf("size 1 1; let x = +1;", 1, 18);
        faultOf("size 1 1; let x = 1 - * 2;", 1, 22);
        faultOf("size 1 1; let x = x(--1,0);", 1, 21);
        faultOf("size 1 1; let x = x(1 0);", 1, 22);
        faultOf("size 1 1; let x = x(1,0;", 1, 23);
        faultOf("size 1 1; let x = x(1+0,0);", 1, 21);
        faultOf("size 1 1; fire 1;", 1, 16);
        faultOf("size 1 1; fire 1 1; let x = 1; fire 1 1;", 1, 31);
        faultOf("size 1 1; onto 1 0; onto 1 0;", 1, 20);
        faultOf("size 1 1; onto 1 +1;", 1, 17);
    }

    private static void badNumbers() {
        faultOf("size 0 1;", 2, 5);
        faultOf("size 1 0;", 2, 7);
        faultOf("size 11 1;", 2, 5);
        faultOf("size 4294967297 1;", 2, 5);
        fine("size 010 0000000000000000000001;");
        faultOf("size 1 1; let x = 1000;", 2, 18);
        faultOf("size 1 1; let x = 99999999999999999999;", 2, 18);
        fine("size 1 1; let x = 000999;");
        faultOf("size 1 1; let x = 1 edge 1000;", 2, 25);
        fine("size 1 1; let x = x(-3,3);");
        faultOf("size 1 1; let x = x(4,0);", 2, 20);
        faultOf("size 1 1; let x = x(-4,0);", 2, 21);
        faultOf("size 1 1; let x = x(0,4);", 2, 22);
        faultOf("size 1 1; let x = x(0,0);", 2, 22);
        faultOf("size 1 1; let x = x(-0,-0);", 2, 24);
        fine("size 1 1; let x = 1; let y = x(0,0);");
        faultOf("size 1 1; let x = 1; let y = x(0,0) + y(0,0);", 2, 42);
        fine("size 1 1; fire -9 9;");
        fine("size 1 1; fire 0 0;");
        faultOf("size 1 1; fire 10 1;", 2, 15);
        faultOf("size 1 1; fire 1 -10;", 2, 18);
        faultOf("size 1 1; onto 4 1;", 2, 15);
        faultOf("size 1 1; onto 1 -4;", 2, 18);
        faultOf("size 1 1; onto 0 0;", 2, 17);
        faultOf("size 1 1; onto 2 0;", 2, 17);
        faultOf("size 1 1; onto 0 -3;", 2, 18);
        faultOf("size 1 1; onto 3 -3;", 2, 18);
        fine("size 1 1; onto 0 -1;");
        fine("size 1 1; onto -3 2;");
    }

    private static void badNames() {
        faultOf("size 1 1; let x = 1; let x = 2;", 3, 25);
        fine("size 1 1; let x = 1; let xx = 2;");
        faultOf("size 1 1; let x = y(1,0); let y = 1;", 3, 18);
        faultOf("size 1 1; let xx = x(1,0);", 3, 19);
        faultOf("size 1 1; let x = y;", 3, 18);
        faultOf("size 1 1; let x = 1 edge x(1,0);", 3, 25);
        faultOf("size 1 1; let x = 1 edge q;", 3, 25);
        fine("size 1 1; let x = 1 edge i - j; let y = x(1,0);");
    }

    private static void tooMany() {
        fine("size 1 1; let a = 1; let b = 1; let c = 1;");
        faultOf("size 1 1; let a = 1; let b = 1; let c = 1; let d = 1;", 4, 43);
        String ones = "1" + "+1".repeat(39);
        fine("size 1 1; let a = " + ones + ";");
        faultOf("size 1 1; let a = " + ones + "+1;", 4, 98);
        faultOf("size 1 1; let a = " + ones + "+(1);", 4, 98);
        faultOf("size 1 1; let a = " + ones + "+-1;", 4, 98);
        faultOf("size 1 1; let a = " + ones + " edge 1;", 4, 103);
        String reads = "a(1,0)" + "+a(1,0)".repeat(11);
        fine("size 1 1; let a = " + reads + ";");
        faultOf("size 1 1; let a = " + reads + "+a(1,0);", 4, 102);
        fine("size 1 1; let a = ((((1))));");
        faultOf("size 1 1; let a = (((((1)))));", 4, 23);
        fine("size 1 1; let a = ----1;");
        faultOf("size 1 1; let a = -----1;", 4, 23);
        fine("size 1 1; let a = -(-(1));");
        faultOf("size 1 1; let a = -(-(-1));", 4, 23);
        fine("size 1 1; let a = (1) + (2) + ((3)) + (((4 + 5)));");
    }

    private static void leastAtOnePlace() {
        String ones = "1" + "+1".repeat(39);
        faultOf("size 1 1; let a = " + ones + "+1000;", 2, 98);
        faultOf("size 1 1; let a = " + ones + "+b(1,0);", 3, 98);
        faultOf("size 1 1; let a = " + ones + "+;", 1, 98);
        faultOf("size 1 1; let a = " + ones + "+", 1, 98);
        faultOf("size 1 1; let a = (((((b(1,0))))));", 3, 23);
        faultOf("size 1 1; let a = (((((1000)))));", 2, 23);
        faultOf("size 1 1; let a = ((((()))));", 1, 23);
        String reads = "a(1,0)" + "+a(1,0)".repeat(11);
        faultOf("size 1 1; let a = " + reads + "+b(1,0);", 3, 102);
        faultOf("size 1 1; let a = 1; let b = 1; let c = 1; let", 4, 43);
    }

    private static void fire() {
        PulseGrid g = grid(SUMS);
        due("fire(2, 1)", g.fire(2, 1), 1);
        due("its p, q", g.about(5) * 10 + g.about(6), 21);
        due("fire(1, 0): 0 is not below 0", g.fire(1, 0), 0);
        due("fire(-9, 9)", g.fire(-9, 9), 0);
        due("fire(9, 9)", g.fire(9, 9), 1);
        int acts = g.about(12);
        for (int no : new int[] {10, -10, MIN, MAX}) {
            due("fire(" + no + ", 0)", g.fire(no, 0), -1);
            due("fire(0, " + no + ")", g.fire(0, no), -1);
        }
        due("nothing was done", g.about(12) * 100 + g.about(5) * 10 + g.about(6), acts * 100 + 99);
        due("without offsets", grid("size 2 2; let x = 1; let y = x(0,0);").fire(0, 0), 1);
    }

    private static void onto() {
        PulseGrid g = grid("size 3 4; let x = 1;");
        due("onto(1, 0): a cell for each j", g.onto(1, 0), 4);
        due("onto(0, -1): for each i", g.onto(0, -1), 3);
        due("onto(1, 1)", g.onto(1, 1), 6);
        due("onto(3, 1): too long a step", g.onto(3, 1), 12);
        due("onto(2, -3)", g.onto(2, -3), 11);
        g.broken(4, true);
        due("onto(1, -1)", g.onto(1, -1), 6);
        due("none is broken then", g.about(10), 0);
        int acts = g.about(12);
        int[][] no = {{0, 0}, {2, 0}, {0, 2}, {2, 2}, {-3, 3}, {4, 1}, {1, -4}, {MIN, 1}, {1, MIN}, {MAX, 1}};
        for (int[] ab : no) {
            due("onto(" + ab[0] + ", " + ab[1] + ")", g.onto(ab[0], ab[1]), -1);
        }
        due("nothing was done", g.about(12) * 100 + g.about(7) * 10 + g.about(8), acts * 100 + 9);
        g.broken(0, true);
        g.onto(1, -1);
        due("the same line again mends all", g.about(10), 0);
    }

    private static void workers() {
        PulseGrid g = grid(SUMS);
        due("workers(12)", g.workers(12), 1);
        due("workers(1)", g.workers(1), 12);
        due("workers(1) again", g.workers(1), 1);
        due("it is an act", g.about(12), 3);
        for (int no : new int[] {0, 13, -1, MIN, MAX}) {
            due("workers(" + no + ")", g.workers(no), -1);
        }
        due("nothing was done", g.about(12) * 10 + g.about(9), 31);
    }

    private static void broken() {
        PulseGrid g = grid(SUMS);
        due("broken(0, false)", g.broken(0, false), -1);
        due("broken(0, true)", g.broken(0, true), 1);
        due("broken(0, true) again", g.broken(0, true), -1);
        due("broken(2, true)", g.broken(2, true), 2);
        due("broken(3, true)", g.broken(3, true), -1);
        due("broken(-1, true)", g.broken(-1, true), -1);
        due("broken(64, true)", g.broken(64, true), -1);
        due("broken(MIN, true)", g.broken(MIN, true), -1);
        due("broken(64, false)", g.broken(64, false), -1);
        due("acts", g.about(12), 2);
        due("broken(0, false)", g.broken(0, false), 1);
        due("busy(0, 3)", g.busy(0, 3), 0);
        due("busy(2, 3)", g.busy(2, 3), 1);
        PulseGrid wide = grid("size 10 10; onto 3 -2;");
        due("cells of a wide one", wide.plan(2), 44);
        for (int k = 0; k < 44; k++) {
            due("broken(" + k + ", true)", wide.broken(k, true), k + 1);
        }
        due("one more", wide.broken(44, true), -1);
        due("the last one", wide.busy(43, 3), 1);
    }

    private static void undoAndRedo() {
        PulseGrid g = grid(SUMS);
        Check.due("undo() of nothing", g.undo(), false);
        Check.due("redo() of nothing", g.redo(), false);
        g.fire(2, 1);
        g.broken(1, true);
        g.onto(0, 1);
        g.workers(4);
        Check.due("undo() workers", g.undo(), true);
        due("workers", g.about(9), 1);
        Check.due("undo() onto", g.undo(), true);
        due("line", g.about(7) * 10 + g.about(8), 10);
        due("what it mended is broken", g.busy(1, 3), 1);
        due("can be done again", g.about(13), 2);
        due("can be taken back", g.about(12), 2);
        Check.due("undo() broken", g.undo(), true);
        due("broken", g.about(10), 0);
        due("latency by 2 1", g.plan(1), 7);
        Check.due("undo() fire", g.undo(), true);
        due("latency by 1 1", g.plan(1), 5);
        Check.due("undo() no more", g.undo(), false);
        Check.due("redo() fire", g.redo(), true);
        Check.due("redo() broken", g.redo(), true);
        due("latency again", g.plan(1), 7);
        due("broken again", g.wrong(), 6);
        due("a refused act", g.fire(10, 10), -1);
        due("leaves what can be done again", g.about(13), 2);
        g.workers(3);
        due("another act does not", g.about(13), 0);
        Check.due("redo() then", g.redo(), false);
        twentyActs();
    }

    private static void twentyActs() {
        PulseGrid g = grid(SUMS);
        for (int k = 1; k <= 25; k++) {
            g.fire(k % 10, k / 10);
        }
        due("acts kept", g.about(12), 20);
        for (int k = 1; k <= 20; k++) {
            Check.due("undo() " + k, g.undo(), true);
        }
        Check.due("undo() 21", g.undo(), false);
        due("the oldest went", g.about(5) * 10 + g.about(6), 50);
        for (int k = 1; k <= 20; k++) {
            Check.due("redo() " + k, g.redo(), true);
            due("p then", g.about(5), (5 + k) % 10);
        }
        Check.due("redo() 21", g.redo(), false);
        g.undo();
        g.workers(2);
        due("an act behind 19", g.about(12), 20);
    }

    private static void value() {
        PulseGrid g = grid(SUMS);
        int[] want = {2, 3, 4, 3, 6, 10, 4, 10, 20};
        for (int k = 0; k < 9; k++) {
            due("value(0, " + k / 3 + ", " + k % 3 + ")", g.value(0, k / 3, k % 3), want[k]);
        }
        due("value(1, 0, 0)", g.value(1, 0, 0), 0);
        due("value(-1, 0, 0)", g.value(-1, 0, 0), 0);
        due("value(0, 3, 0)", g.value(0, 3, 0), 0);
        due("value(0, 0, -1)", g.value(0, 0, -1), 0);
        due("value(MIN, MIN, MAX)", g.value(MIN, MIN, MAX), 0);
        g.fire(-1, 0);
        due("whatever the schedule", g.value(0, 2, 2), 20);
        formulas();
        PulseGrid edges = grid("size 2 2; let a = 7 edge 100 * i + j; let b = a(-1,3) + a(0,0) edge -5; let c = b(2,0);");
        due("an edge is for the place read", edges.value(1, 1, 1), 4 + 7);
        due("an edge is for the place read, below 0", edges.value(1, 0, 0), -100 + 3 + 7);
        due("the edge of the variable that is read", edges.value(2, 0, 0), -5);
        PulseGrid names = grid("size 2 1; let ab = 3; let ac = ab(0,0) + ac(-1,0); let cb = ac(0,0) * 2 + ab(0,0);");
        due("names of more letters", names.value(2, 1, 0), 15);
        due("an edge not told", grid("size 1 1; let a = a(1,0) + 5;").value(0, 0, 0), 5);
        due("none if not ordered", grid(ROUND).value(0, 0, 0), 0);
        PulseGrid power = grid("size 1 10; let a = a(0,-1) * 999 edge 999;");
        int wrapped = 999;
        for (int k = 0; k < 10; k++) {
            wrapped *= 999;
        }
        due("numbers wrap", power.value(0, 0, 9), wrapped);
    }

    private static void formulas() {
        String[] text = {"1 + 2 * 3", "(1 + 2) * 3", "10 - 3 - 2", "5 < 3", "5 > 3", "1 + 2 < 2 + 0 > 1", "7 > 2 < 3", "-2 * -3",
            "--4", "- (1 - 5)", "2 - -2", "3 < 4 + 1 > 2 * 5", "i + j", "0 - 1 < 0"};
        int[] want = {7, 9, 5, 3, 5, 2, 3, 6, 4, 4, 4, 10, 0, -1};
        for (int k = 0; k < text.length; k++) {
            due(text[k], grid("size 1 1; let x = " + text[k] + ";").value(0, 0, 0), want[k]);
        }
    }

    private static void orderedAndDepth() {
        PulseGrid g = grid(SUMS);
        for (int k = 0; k < 9; k++) {
            due("ordered " + k, g.ordered(k / 3, k % 3), 1);
            due("depth " + k, g.depth(k / 3, k % 3), k / 3 + k % 3);
        }
        int[][] no = {{3, 0}, {0, 3}, {-1, 0}, {0, -1}, {MIN, MAX}};
        for (int[] ij : no) {
            due("ordered, no point", g.ordered(ij[0], ij[1]), -1);
            due("depth, no point", g.depth(ij[0], ij[1]), -1);
        }
        due("what goes round", grid(ROUND).ordered(1, 1), 0);
        due("depth of it", grid(ROUND).depth(1, 1), -1);
        // 0 and 1 hang on one another by (0,3), (0,-3) with 3, 4: 0-3, 1-4 go round; 2 reads neither.
        PulseGrid h = grid("size 1 5; let x = x(0,3) + x(0,-3);");
        int[] want = {0, 0, 1, 0, 0};
        for (int j = 0; j < 5; j++) {
            due("ordered(0, " + j + ")", h.ordered(0, j), want[j]);
        }
        due("depth(0, 2)", h.depth(0, 2), 0);
        // By (1,-1), (-1,1) all but two corners go round: (0,0) hangs on none, (1,2) by (0,-2) on (1,0).
        PulseGrid c = grid("size 2 3; let x = x(1,-1) + x(-1,1) + x(0,-2);");
        due("goes round", c.ordered(0, 1), 0);
        due("hangs on none", c.ordered(0, 0), 1);
        due("hangs on one that goes round", c.ordered(1, 2), 0);
        due("reads 0, 0 alone", grid("size 1 1; let x = 1; let y = x(0,0);").depth(0, 0), 0);
    }

    private static void run() {
        PulseGrid g = grid(SUMS);
        for (int k = 0; k < 9; k++) {
            due("run as the loops", g.run(0, k / 3, k % 3), g.value(0, k / 3, k % 3));
        }
        due("run(1, 0, 0)", g.run(1, 0, 0), 0);
        due("run(-1, 0, 0)", g.run(-1, 0, 0), 0);
        due("run(0, 3, 0)", g.run(0, 3, 0), 0);
        due("run(0, 0, MIN)", g.run(0, 0, MIN), 0);
        // One row a tick: the left one is not there yet.
        g.fire(1, 0);
        int[] rows = {2, 1, 1, 3, 1, 1, 4, 1, 1};
        for (int k = 0; k < 9; k++) {
            due("run by 1 0, " + k, g.run(0, k / 3, k % 3), rows[k]);
        }
        // All at once: cells are columns, so that all but the first row are clashes.
        g.fire(0, 0);
        int[] once = {2, 1, 1, 0, 0, 0, 0, 0, 0};
        for (int k = 0; k < 9; k++) {
            due("run by 0 0, " + k, g.run(0, k / 3, k % 3), once[k]);
        }
        g.fire(1, 1);
        g.broken(1, true);
        int[] hole = {2, 0, 1, 3, 0, 1, 4, 0, 1};
        for (int k = 0; k < 9; k++) {
            due("run without a column, " + k, g.run(0, k / 3, k % 3), hole[k]);
        }
        PulseGrid two = grid("size 1 2; let x = j + 3; let y = x(0,0) * 2 + x(0,1); fire 0 1; onto 0 1;");
        due("of 0, 0 what was done just now", two.run(1, 0, 0), 6);
        due("beyond all points the edge", two.run(1, 0, 1), 8);
        PulseGrid left = grid("size 1 2; let x = 5; fire 1 0; onto 0 -1;");
        due("the first of a clash is done", left.run(0, 0, 0), 5);
        due("the other one is not", left.run(0, 0, 1), 0);
        PulseGrid upper = grid("size 2 1; let x = 5; fire 0 1; onto -1 0;");
        due("the upper of a clash is done", upper.run(0, 0, 0), 5);
        due("the lower one is not", upper.run(0, 1, 0), 0);
        PulseGrid slant = grid("size 2 2; let x = 5; fire 1 1; onto -1 1;");
        due("by i, then j: done", slant.run(0, 0, 1), 5);
        due("by i, then j: not done", slant.run(0, 1, 0), 0);
        due("a point that is not ordered runs too", grid(ROUND).run(0, 1, 0), 2);
    }

    private static void wrong() {
        PulseGrid g = grid(SUMS);
        due("wrong()", g.wrong(), 0);
        g.fire(1, 0);
        due("wrong() by 1 0", g.wrong(), 6);
        g.fire(1, 1);
        g.broken(0, true);
        due("wrong() without the last column", g.wrong(), 3);
        g.broken(2, true);
        due("wrong() without the first, too", g.wrong(), 9);
        due("those not ordered are not wrong", grid(ROUND).wrong(), 0);
        due("one variable is enough", grid("size 1 2; let x = 1; let y = x(0,-1); fire 0 0; onto 0 1;").wrong(), 1);
    }

    private static void tickAndWave() {
        PulseGrid g = grid("size 2 3; let x = 1; fire 2 -1;");
        int[] want = {2, 1, 0, 4, 3, 2};
        for (int k = 0; k < 6; k++) {
            due("tick " + k, g.tick(k / 3, k % 3), want[k]);
        }
        due("tick(2, 0)", g.tick(2, 0), -1);
        due("tick(0, 3)", g.tick(0, 3), -1);
        due("tick(-1, 0)", g.tick(-1, 0), -1);
        due("tick(0, MIN)", g.tick(0, MIN), -1);
        int[] waves = {1, 1, 2, 1, 1, 0};
        for (int k = 0; k < 6; k++) {
            due("wave(" + k + ")", g.wave(k), waves[k]);
        }
        due("wave(-1)", g.wave(-1), -1);
        due("wave(MIN)", g.wave(MIN), -1);
        due("wave(MAX)", g.wave(MAX), 0);
        PulseGrid big = grid("size 10 10; fire -9 -9;");
        due("tick(0, 0) by -9 -9", big.tick(0, 0), 162);
        due("wave(162)", big.wave(162), 1);
        due("wave(163)", big.wave(163), 0);
    }

    private static void cell() {
        PulseGrid g = grid("size 2 3; let x = 1;");
        due("cell(0, 2): 0 * i - 1 * j", g.cell(0, 2), 0);
        due("cell(1, 0)", g.cell(1, 0), 2);
        g.onto(-1, 2);
        int[] want = {0, 1, 2, 2, 3, 4};
        for (int k = 0; k < 6; k++) {
            due("cell by 2 i + j, " + k, g.cell(k / 3, k % 3), want[k]);
        }
        g.onto(-3, 2);
        int[] gaps = {0, 2, 4, 1, 3, 5};
        for (int k = 0; k < 6; k++) {
            due("cell by 2 i + 3 j, " + k, g.cell(k / 3, k % 3), gaps[k]);
        }
        due("cell(2, 0)", g.cell(2, 0), -1);
        due("cell(0, -1)", g.cell(0, -1), -1);
        due("cell(MAX, MIN)", g.cell(MAX, MIN), -1);
    }

    private static void point() {
        PulseGrid g = grid("size 3 3; fire 1 1; onto 1 -1;");
        due("the first of those that clash", g.point(2, 2), 2);
        due("point(4, 0)", g.point(4, 0), 0);
        due("point(0, 0)", g.point(0, 0), -1);
        due("cell of (0, 0)", g.cell(0, 0), 4);
        g.onto(1, 1);
        due("point(4, 2)", g.point(4, 2), 20);
        due("point(0, 2)", g.point(0, 2), 2);
        due("point(2, 4)", g.point(2, 4), 22);
        due("point(2, 3)", g.point(2, 3), -1);
        due("point(-1, 0)", g.point(-1, 0), -1);
        due("point(0, -1)", g.point(0, -1), -1);
        due("point(MAX, MAX)", g.point(MAX, MAX), -1);
    }

    private static void busy() {
        PulseGrid g = grid(SUMS);
        g.fire(-1, -2);
        due("busy(0, 0)", g.busy(0, 0), 3);
        due("busy(0, 1): the earliest, not the uppermost", g.busy(0, 1), 0);
        due("busy(0, 2)", g.busy(0, 2), 2);
        due("busy(2, 1)", g.busy(2, 1), 4);
        due("busy(2, 2)", g.busy(2, 2), 6);
        g.fire(1, 1);
        int[] more = {3, 6, 9};
        for (int k = 0; k < 3; k++) {
            due("busy(" + k + ", 4)", g.busy(k, 4), more[k]);
            due("it is not broken by that", g.busy(k, 3), 0);
        }
        due("wrong() as it was", g.wrong(), 0);
        g.broken(1, true);
        due("busy(1, 3)", g.busy(1, 3), 1);
        due("busy(1, 4) of one broken", g.busy(1, 4), 0);
        due("busy(0, 4) of one that is wrong", g.busy(0, 4), 0);
        due("busy(2, 4)", g.busy(2, 4), 3);
        due("busy(0, 5)", g.busy(0, 5), -1000);
        due("busy(0, -1)", g.busy(0, -1), -1000);
        due("busy(3, 0)", g.busy(3, 0), -1000);
        due("busy(-1, 0)", g.busy(-1, 0), -1000);
        due("busy(MIN, 4)", g.busy(MIN, 4), -1000);
        // x is 0, 1, 1 by the loops: broken, it is 0 throughout.
        PulseGrid fewer = grid("size 1 3; let x = x(0,-1) * (1 - x(0,-1)) + j < 1; fire 0 1; onto 0 1;");
        due("one cell for all, broken", fewer.busy(0, 4), 2);
        fewerWrong();
    }

    // x is 5 at j 0. Run backwards, j 1 comes first and takes it for 0; in h the loops give 0 there, too.
    private static void fewerWrong() {
        PulseGrid g = grid("size 1 2; let x = 1 - x(0,-1) edge -4; fire 0 -1;");
        due("x at 0", g.value(0, 0, 0), 5);
        due("x at 1", g.value(0, 0, 1), -4);
        due("wrong() backwards", g.wrong(), 1);
        PulseGrid h = grid("size 1 2; let x = (1 - x(0,-1)) > 0 edge -4; fire 0 -1;");
        due("x at 1, not below 0", h.value(0, 0, 1), 0);
        due("run backwards", h.run(0, 0, 1), 1);
        due("broken makes it right", h.busy(0, 4), -1);
    }

    private static void plan() {
        PulseGrid g = grid(SUMS);
        due("plan(0)", g.plan(0), 1);
        due("plan(1)", g.plan(1), 5);
        due("plan(2)", g.plan(2), 3);
        due("plan(3)", g.plan(3), 0);
        due("plan(4)", g.plan(4), 6);
        due("plan(5)", g.plan(5), 5);
        due("plan(6)", g.plan(6), 0);
        due("plan(7)", g.plan(7), -1);
        due("plan(-1)", g.plan(-1), -1);
        g.fire(0, 3);
        due("plan(0) by 0 3", g.plan(0), 0);
        due("plan(1) by 0 3", g.plan(1), 7);
        due("plan(3) by 0 3: all but the first row", g.plan(3), 6);
        due("plan(4) by 0 3", g.plan(4), 7 * 3 - 3);
        g.fire(2, -1);
        g.onto(1, 2);
        due("plan(3) by a line of no tick", g.plan(3), 2);
        g.fire(-4, 2);
        due("plan(3) the other way", g.plan(3), 2);
        due("plan(5), none ordered", grid(ROUND).plan(5), 0);
        due("plan(6), none ordered", grid(ROUND).plan(6), 4);
        due("plan(6), some ordered", grid("size 1 5; let x = x(0,3) + x(0,-3);").plan(6), 4);
    }

    private static void offset() {
        PulseGrid g = grid("size 4 5; let x = 1; let y = x(0,0) + y(-1,2) + x(3,0) + x(-1,2); fire 2 -3; onto 3 2;");
        int[][] want = {{-1, 2, 9, -8, 8, 72}, {3, 0, 5, 6, -6, 0}};
        for (int o = 0; o < 2; o++) {
            for (int k = 0; k < 6; k++) {
                due("offset(" + o + ", " + k + ")", g.offset(o, k), want[o][k]);
            }
        }
        due("offset(0, 6)", g.offset(0, 6), -1000);
        due("offset(0, -1)", g.offset(0, -1), -1000);
        due("offset(2, 0): 0, 0 is none", g.offset(2, 0), -1000);
        due("offset(-1, 0)", g.offset(-1, 0), -1000);
        due("offset(MIN, 0)", g.offset(MIN, 0), -1000);
        due("one farther than all", grid("size 2 2; let x = x(0,3);").offset(0, 2), 0);
        due("0 ticks back", grid("size 2 2; let x = x(1,-1);").offset(0, 5), 0);
    }

    private static void flow() {
        PulseGrid g = grid("size 2 2; let x = 1; let y = x(-1,0) + x(-1,0) + y(0,-1) + x(0,0);");
        int[] loads = {3, 2 + 1, 0, 0};
        int[] drains = {0, 0, 1, 0};
        for (int t = 0; t < 4; t++) {
            due("flow(" + t + ", 0)", g.flow(t, 0), loads[t]);
            due("flow(" + t + ", 1)", g.flow(t, 1), drains[t]);
        }
        due("flow(-1, 0)", g.flow(-1, 0), -1);
        due("flow(MIN, 1)", g.flow(MIN, 1), -1);
        due("flow(MAX, 1)", g.flow(MAX, 1), 0);
        due("flow(0, 2)", g.flow(0, 2), -1);
        due("flow(0, -1)", g.flow(0, -1), -1);
        g.fire(0, 0);
        due("clashes do not load", g.flow(0, 0), 3 + 2);
        due("clashes do not drain", g.flow(0, 1), 0);
        due("all drain if none is read", grid("size 2 2; fire 0 1; onto 0 1;").flow(1, 1), 2);
    }

    private static void best() {
        PulseGrid g = grid(SUMS);
        due("best(1, 0)", g.best(1, 0), 1);
        due("best(2, 0)", g.best(2, 0), 4);
        due("best(9, 0)", g.best(9, 0), 81);
        due("best(9, 1)", g.best(9, 1), 5);
        due("best(9, 2)", g.best(9, 2), 1);
        due("best(9, 3)", g.best(9, 3), 1);
        g.onto(1, -1);
        due("best(2, 0): not those with p = q", g.best(2, 0), 2);
        due("best(2, 1)", g.best(2, 1), 7);
        due("best(2, 2): the first", g.best(2, 2), 1);
        due("best(2, 3)", g.best(2, 3), 2);
        due("best(1, 0), none", g.best(1, 0), 0);
        due("best(1, 1), none", g.best(1, 1), -1000);
        due("best(1, 2), none", g.best(1, 2), -1000);
        due("best(0, 0)", g.best(0, 0), -1000);
        due("best(10, 0)", g.best(10, 0), -1000);
        due("best(MIN, 0)", g.best(MIN, 0), -1000);
        due("best(2, 4)", g.best(2, 4), -1000);
        due("best(2, -1)", g.best(2, -1), -1000);
        due("the schedule there is stays", g.about(5) * 10 + g.about(6), 11);
        due("none is lawful", grid(ROUND).best(9, 0), 0);
    }

    private static void line() {
        PulseGrid g = grid(SUMS);
        due("line(0)", g.line(0), 30);
        due("line(1)", g.line(1), 3);
        due("line(2)", g.line(2), -1);
        due("line(3)", g.line(3), 0);
        g.fire(1, 0);
        due("line(0) by 1 0: not 0 1, 0 -1", g.line(0), 30);
        g.fire(0, 1);
        due("line(2) by 0 1", g.line(2), 0);
        due("line(3) by 0 1", g.line(3), -1);
        g.fire(0, 0);
        due("line(0) by 0 0: those too long", g.line(0), 16);
        due("line(1) by 0 0", g.line(1), 9);
        due("line(2) by 0 0", g.line(2), -3);
        due("line(3) by 0 0", g.line(3), -2);
        due("line(4)", g.line(4), -1000);
        due("line(-1)", g.line(-1), -1000);
        PulseGrid big = grid("size 10 10; fire 0 0;");
        due("line(0), none", big.line(0), 0);
        due("line(1), none", big.line(1), -1000);
        due("line(3), none", big.line(3), -1000);
    }

    private static void pair() {
        PulseGrid g = grid("size 2 5; let x = x(0,-1);");
        // Latency 5 by q = 1, p = 0; the line along j has 2 cells.
        int[] want = {10, 0, 1, 0, -1};
        for (int k = 0; k < 5; k++) {
            due("pair(4, " + k + ")", g.pair(4, k), want[k]);
        }
        due("pair(1, 5)", g.pair(1, 5), -1000);
        due("pair(1, -1)", g.pair(1, -1), -1000);
        due("pair(0, 0)", g.pair(0, 0), -1000);
        due("pair(5, 0)", g.pair(5, 0), -1000);
        due("pair(MAX, 0)", g.pair(MAX, 0), -1000);
        PulseGrid no = grid(ROUND);
        for (int k = 0; k < 5; k++) {
            due("pair(4, " + k + "), none", no.pair(4, k), -1000);
        }
        // -3 p + 2 q below 0 and 3 p - 3 q below 0: q above p, 2 q below 3 p: 3, 4 is the first.
        PulseGrid far = grid("size 2 2; let x = x(-3,2) + x(3,-3);");
        due("pair(2, 0) too near", far.pair(2, 0), -1000);
        due("pair(4, 1)", far.pair(4, 1), 3);
        due("pair(4, 2)", far.pair(4, 2), 4);
        due("pair(4, 0)", far.pair(4, 0), 8 * 2);
    }

    private static void beats() {
        PulseGrid g = grid(SUMS);
        // Waves of cells: 2; 2 1; 2 1 0; 1 0; 0.
        due("beats(1, false)", g.beats(1, false), 9);
        due("beats(1, true)", g.beats(1, true), 9);
        due("beats(2, false): blocks 0 1, 2", g.beats(2, false), 1 + 1 + 2 + 2 + 1);
        due("beats(2, true): 0 2, 1", g.beats(2, true), 1 + 1 + 2 + 1 + 1);
        due("beats(3, false)", g.beats(3, false), 5);
        due("beats(12, true)", g.beats(12, true), 5);
        due("beats(12, false)", g.beats(12, false), 5);
        due("beats(0, true)", g.beats(0, true), -1);
        due("beats(13, false)", g.beats(13, false), -1);
        due("beats(MIN, false)", g.beats(MIN, false), -1);
        g.fire(0, 0);
        due("clashes take beats", g.beats(3, true), 3);
        g.fire(2, 0);
        due("a tick without a point takes none", g.beats(3, true), 3);
        // 7 cells at once by 3: blocks of 3, 3, 1; by 5: blocks of 2.
        PulseGrid row = grid("size 1 7; fire 0 0;");
        due("beats(3, false) of 7", row.beats(3, false), 3);
        due("beats(5, false) of 7", row.beats(5, false), 2);
        due("beats(6, true) of 7", row.beats(6, true), 2);
    }

    private static void fewest() {
        PulseGrid g = grid(SUMS);
        due("fewest(9, false)", g.fewest(9, false), 1);
        due("fewest(MAX, true)", g.fewest(MAX, true), 1);
        due("fewest(8, false)", g.fewest(8, false), 2);
        due("fewest(6, false)", g.fewest(6, false), 3);
        due("fewest(6, true)", g.fewest(6, true), 2);
        due("fewest(5, true)", g.fewest(5, true), 3);
        due("fewest(4, true)", g.fewest(4, true), -1);
        PulseGrid twelve = grid("size 3 4; fire 0 0; onto 3 1;");
        due("all twelve, in turn", twelve.fewest(1, true), 12);
        due("all twelve, in blocks", twelve.fewest(1, false), 12);
        due("fewest(-1, false)", g.fewest(-1, false), -1);
        due("fewest(MIN, false)", g.fewest(MIN, false), -1);
    }

    private static void heightAndCritical() {
        PulseGrid g = grid("size 2 4; let x = x(0,-1) + x(-1,0);");
        for (int k = 0; k < 8; k++) {
            due("height " + k, g.height(k / 4, k % 4), 4 - k / 4 - k % 4);
        }
        due("critical()", g.critical(), 8);
        due("height(2, 0)", g.height(2, 0), -1);
        due("height(0, -1)", g.height(0, -1), -1);
        due("height(MAX, MAX)", g.height(MAX, MAX), -1);
        // (0,0) (1,1) (2,2) are the longest row.
        PulseGrid d = grid("size 3 4; let x = x(-1,-1);");
        due("critical() of diagonals", d.critical(), 6);
        due("height of one aside", d.height(1, 0), 1);
        // Each reads the one that reads it, whatever it is taken times.
        PulseGrid mixed = grid("size 1 6; let x = x(0,-3) + x(0,3) * i;");
        due("height of what goes round", mixed.height(0, 0), -1);
        due("critical() of none ordered", mixed.critical(), 0);
        mixedHeights();
    }

    // By (-1,1), (1,-1) the points (0,1), (1,0) go round; by (0,-2) (0,2) hangs on (0,0), (1,2) on (1,0).
    private static void mixedHeights() {
        PulseGrid g = grid("size 2 3; let x = x(-1,1) + x(1,-1) + x(0,-2);");
        int[] ordered = {1, 0, 0, 0, 0, 0};
        for (int k = 0; k < 6; k++) {
            due("ordered " + k, g.ordered(k / 3, k % 3), ordered[k]);
        }
        due("ordered, but one that hangs on it is not", g.height(0, 0), -1);
        due("depth of it", g.depth(0, 0), 0);
        due("critical() without heights", g.critical(), 0);
    }

    private static void wrongAt() {
        PulseGrid g = grid(SUMS);
        due("wrongAt(0), none", g.wrongAt(0), -1);
        g.fire(1, 0);
        int[] want = {1, 2, 11, 12, 21, 22};
        for (int k = 0; k < 6; k++) {
            due("wrongAt(" + k + ")", g.wrongAt(k), want[k]);
        }
        due("wrongAt(6)", g.wrongAt(6), -1);
        due("wrongAt(-1)", g.wrongAt(-1), -1);
        due("wrongAt(MIN)", g.wrongAt(MIN), -1);
    }

    private static void peak() {
        PulseGrid g = grid("size 2 4; fire 1 1;");
        due("peak(0): the first", g.peak(0), 1);
        due("peak(1)", g.peak(1), 2);
        due("peak(2)", g.peak(2), 0);
        due("peak(3)", g.peak(3), -1);
        due("peak(-1)", g.peak(-1), -1);
        g.fire(0, -3);
        due("peak(0) by 0 -3", g.peak(0), 0);
        due("peak(2) by 0 -3", g.peak(2), 6);
        g.fire(0, 0);
        due("peak(1) by 0 0", g.peak(1), 8);
    }

    private static void tiles() {
        PulseGrid g = grid("size 5 4; let x = x(-1,0) + x(-1,0) + x(-1,-1);");
        due("tiles(2, 3, 0)", g.tiles(2, 3, 0), 6);
        // By (-1,0) rows 2, 4 read another tile, 4 columns each; by (-1,-1) these, 3 columns, and column 3 of rows 1, 3.
        due("tiles(2, 3, 1)", g.tiles(2, 3, 1), 8 + 6 + 2);
        due("tiles(2, 3, 2)", g.tiles(2, 3, 2), 1);
        due("tiles(2, 3, 3)", g.tiles(2, 3, 3), 4);
        due("tiles(10, 10, 0)", g.tiles(10, 10, 0), 1);
        due("tiles(10, 10, 1)", g.tiles(10, 10, 1), 0);
        due("tiles(10, 10, 3)", g.tiles(10, 10, 3), 1);
        due("tiles(1, 1, 0)", g.tiles(1, 1, 0), 20);
        due("tiles(1, 1, 3)", g.tiles(1, 1, 3), 5);
        int[][] no = {{0, 1, 0}, {1, 0, 0}, {11, 1, 0}, {1, 11, 0}, {1, 1, 4}, {1, 1, -1}, {MIN, 1, 0}, {1, MAX, 0}};
        for (int[] n : no) {
            due("tiles, none such", g.tiles(n[0], n[1], n[2]), -1);
        }
        PulseGrid round = grid(ROUND);
        due("tiles(1, 2, 2) go round", round.tiles(1, 2, 2), 0);
        due("tiles(1, 2, 3)", round.tiles(1, 2, 3), 0);
        due("tiles(1, 2, 1)", round.tiles(1, 2, 1), 4);
        due("tiles(2, 1, 2) go round within", round.tiles(2, 1, 2), 1);
        due("tiles(2, 1, 3)", round.tiles(2, 1, 3), 1);
        // Points are ordered, tiles are not: columns of two read up and down the next ones.
        PulseGrid cross = grid("size 2 4; let x = x(-1,1) + x(-1,-1);");
        due("its points", cross.plan(6), 0);
        due("its columns", cross.tiles(2, 1, 2), 0);
        due("its rows", cross.tiles(1, 4, 3), 2);
    }

    private static void tiling() {
        PulseGrid g = grid("size 4 6; let x = x(-1,0) + x(0,-1);");
        // 2 by 2: 6 + 2 * 4 = 14; 1 by 4: 18 + 4 = 22; 3 by 1: 6 + 20; 4 by 1: 20.
        due("tiling(4, 0)", g.tiling(4, 0), 2);
        due("tiling(4, 1)", g.tiling(4, 1), 2);
        due("tiling(4, 2)", g.tiling(4, 2), 14);
        due("tiling(1, 0)", g.tiling(1, 0) * 10 + g.tiling(1, 1), 11);
        due("tiling(1, 2)", g.tiling(1, 2), 18 + 20);
        due("tiling(24, 0)", g.tiling(24, 0), 4);
        due("tiling(100, 1)", g.tiling(100, 1), 6);
        due("tiling(100, 2)", g.tiling(100, 2), 0);
        due("tiling(0, 0)", g.tiling(0, 0), -1);
        due("tiling(101, 0)", g.tiling(101, 0), -1);
        due("tiling(MIN, 0)", g.tiling(MIN, 0), -1);
        due("tiling(MAX, 0)", g.tiling(MAX, 0), -1);
        due("tiling(4, 3)", g.tiling(4, 3), -1);
        due("tiling(4, -1)", g.tiling(4, -1), -1);
        due("none that can be done", grid(ROUND).tiling(1, 2), -1);
        // By no offset all are as good: the first.
        due("tiling without reads", grid("size 3 3;").tiling(9, 0), 1);
        due("tiling without reads, how often", grid("size 3 3;").tiling(9, 2), 0);
    }

    private static void near() {
        PulseGrid g = grid("size 3 3; let x = 1; let y = x(0,0) + y(-1,0) + x(-1,0) + x(0,-2) + y(1,1);");
        due("near(0, 0, 0)", g.near(0, 0, 0), 1);
        due("near(0, 0, 1)", g.near(0, 0, 1), 2);
        due("near(1, 2, 0)", g.near(1, 2, 0), 2);
        due("near(1, 1, 0)", g.near(1, 1, 0), 2);
        due("near(1, 1, 1)", g.near(1, 1, 1), 2);
        due("near(2, 2, 1)", g.near(2, 2, 1), 1);
        due("near(3, 0, 0)", g.near(3, 0, 0), -1);
        due("near(0, -1, 1)", g.near(0, -1, 1), -1);
        due("near(0, 0, 2)", g.near(0, 0, 2), -1);
        due("near(0, 0, -1)", g.near(0, 0, -1), -1);
    }

    private static void idle() {
        PulseGrid g = grid("size 3 3; fire 4 1; onto 0 1;");
        due("idle(0), a tick each", g.idle(0), 0);
        g.onto(1, 0);
        due("idle(0), each fourth tick", g.idle(0), 3);
        g.onto(1, 1);
        due("idle(0), one point", g.idle(0), 0);
        due("idle(2)", g.idle(2), 4);
        g.onto(1, -1);
        due("idle(1)", g.idle(1), 2);
        due("idle(5)", g.idle(5), -1);
        due("idle(-1)", g.idle(-1), -1);
        due("idle(MAX)", g.idle(MAX), -1);
        g.fire(1, 1);
        due("idle(2), all at once", g.idle(2), 0);
    }

    private static void hangs() {
        PulseGrid g = grid(SUMS);
        due("hangs(0, 0)", g.hangs(0, 0), 8);
        due("hangs(1, 1)", g.hangs(1, 1), 3);
        due("hangs(2, 2)", g.hangs(2, 2), 0);
        due("hangs(0, 2)", g.hangs(0, 2), 2);
        due("hangs(3, 0)", g.hangs(3, 0), -1);
        due("hangs(0, MIN)", g.hangs(0, MIN), -1);
        due("itself, if it does", grid(ROUND).hangs(0, 1), 2);
        due("not itself by 0, 0", grid("size 1 1; let x = 1; let y = x(0,0);").hangs(0, 0), 0);
    }

    private static void stirs() {
        PulseGrid g = grid(SUMS);
        due("stirs(0, 0, 0)", g.stirs(0, 0, 0), 9);
        due("stirs(0, 1, 1)", g.stirs(0, 1, 1), 4);
        due("stirs(0, 2, 2)", g.stirs(0, 2, 2), 1);
        due("stirs(1, 0, 0)", g.stirs(1, 0, 0), -1);
        due("stirs(-1, 0, 0)", g.stirs(-1, 0, 0), -1);
        due("stirs(0, 3, 0)", g.stirs(0, 3, 0), -1);
        due("stirs(0, 0, MIN)", g.stirs(0, 0, MIN), -1);
        due("values stay", g.value(0, 2, 2), 20);
        due("not ordered", grid(ROUND).stirs(0, 0, 0), -1);
        PulseGrid capped = grid("size 1 4; let x = x(0,-1) < 5 edge 5; let y = x(0,-1) + y(0,-1) - y(0,-1);");
        due("what a lesser one hides", capped.stirs(0, 0, 0), 2);
        due("what goes off again", capped.stirs(1, 0, 0), 1);
    }

    private static void stirred() {
        PulseGrid g = grid(SUMS);
        due("stirred(0, 0, 0)", g.stirred(0, 0, 0), 26);
        due("stirred(0, 1, 1)", g.stirred(0, 1, 1), 22);
        due("stirred(0, 2, 2)", g.stirred(0, 2, 2), 21);
        due("stirred(1, 0, 0)", g.stirred(1, 0, 0), 0);
        due("stirred(0, 3, 0)", g.stirred(0, 3, 0), 0);
        due("stirred(0, MIN, 0)", g.stirred(0, MIN, 0), 0);
        due("not ordered", grid(ROUND).stirred(0, 0, 0), 0);
        PulseGrid two = grid("size 1 2; let x = 4; let y = x(0,0) * 10 + x(0,-1);");
        due("a variable read at 0, 0", two.stirred(1, 0, 1), 45);
        due("that variable alone is told", two.stirred(0, 0, 0), 4);
        due("stirs() tells the others", two.stirs(0, 0, 0), 2);
        // (0,0) is ordered, the last point goes round with (0,1).
        PulseGrid last = grid("size 2 2; let x = 3 + x(-1,0) * 0 + x(1,0) * 0 + x(-1,1);");
        due("the last is not ordered", last.ordered(1, 1), 0);
        PulseGrid lone = grid("size 1 5; let x = 1 + x(0,3) + x(0,-3);");
        due("ordered, but the last is not", lone.stirs(0, 0, 2), 1);
        due("stirred() then", lone.stirred(0, 0, 2), 0);
        PulseGrid most = grid("size 1 1; let x = 999*999*999*2 + 999*999*153 + 999*784 + 280;");
        due("the greatest number", most.value(0, 0, 0), MAX);
        due("1 more than that", most.stirred(0, 0, 0), MIN);
        due("is another one", most.stirs(0, 0, 0), 1);
    }

    private static void total() {
        PulseGrid g = grid("size 2 2; let x = 3 - i * j; let y = 0 - x(0,0) - j;");
        due("total(0, 0)", g.total(0, 0), 11);
        due("total(0, 1)", g.total(0, 1), 3);
        due("total(0, 2)", g.total(0, 2), 2);
        due("total(0, 3)", g.total(0, 3), 0);
        due("total(1, 0)", g.total(1, 0), -13);
        due("total(1, 1)", g.total(1, 1), -3);
        due("total(1, 2)", g.total(1, 2), -4);
        due("total(1, 3)", g.total(1, 3), 0);
        due("total(0, 4)", g.total(0, 4), 0);
        due("total(0, -1)", g.total(0, -1), 0);
        for (int no : new int[] {2, -1, MIN, MAX}) {
            due("total(" + no + ", 1)", g.total(no, 1), 0);
            due("total(" + no + ", 3)", g.total(no, 3), -1);
        }
        PulseGrid lone = grid("size 1 5; let x = 0 - 7 + x(0,3) + x(0,-3);");
        due("ordered points alone", lone.total(0, 0), -7);
        due("the greatest of them", lone.total(0, 1), -7);
        due("where it is", lone.total(0, 3), 2);
        due("none ordered", grid(ROUND).total(0, 1), 0);
        due("none ordered: where", grid(ROUND).total(0, 3), -1);
        PulseGrid big = grid("size 1 10; let x = 999 * 999 * 999;");
        due("wrapping", big.total(0, 0), 10 * (999 * 999 * 999));
        due("the last of the greatest comes not first", grid("size 3 1; let x = i > 1;").total(0, 3), 20);
    }

    private static void law() {
        PulseGrid g = grid(SUMS);
        due("law()", g.law(), 0);
        g.fire(1, 0);
        due("law(), not lawful", g.law(), 0);
        g.fire(1, 1);
        g.onto(1, -1);
        due("law(), clashes", g.law(), 0);
        g.onto(1, 0);
        g.broken(0, true);
        due("law(), a broken cell", g.law(), 0);
        PulseGrid one = grid("size 2 2; let x = 1 + x(-1,0) + x(0,-1); onto 1 -1;");
        due("one clash", one.plan(3), 1);
        due("which is wrong", one.wrong(), 2);
        due("law(), one clash", one.law(), 0);
        due("law(), none ordered", grid(ROUND).law(), 0);
        due("law(), far reads", grid("size 10 10; let x = x(-3,2) + x(-1,-3) * 2 edge i; fire 3 1; onto 1 1;").law(), 0);
    }

    private static void imageAndBack() {
        PulseGrid g = grid(SUMS);
        due("image(2)", g.image(2), -1);
        due("image(-1)", g.image(-1), -1);
        due("image(MIN)", g.image(MIN), -1);
        due("back(0), nothing there", g.back(0), -1);
        due("image(1)", g.image(1), 5);
        g.fire(3, -2);
        g.onto(0, 1);
        g.workers(6);
        g.broken(1, true);
        due("image(0)", g.image(0), 11);
        due("an image is no act", g.about(12), 4);
        due("back(1)", g.back(1), 5);
        due("p, q", g.about(5) * 10 + g.about(6), 11);
        due("a, b", g.about(7) * 10 + g.about(8), 10);
        due("workers", g.about(9), 1);
        due("broken", g.about(10), 0);
        due("run as kept", g.wrong(), 0);
        due("nothing can be taken back", g.about(12), 0);
        Check.due("undo()", g.undo(), false);
        g.workers(2);
        g.undo();
        due("back(2)", g.back(2), -1);
        due("back(-1)", g.back(-1), -1);
        due("a refused one does nothing", g.about(13), 1);
        due("back(0)", g.back(0), 11);
        due("nothing can be done again", g.about(13), 0);
        Check.due("redo()", g.redo(), false);
        due("p", g.about(5), 3);
        due("q", g.about(6), -2);
        due("a, b again", g.about(7) * 10 + g.about(8), 1);
        due("workers again", g.about(9), 6);
        due("broken again", g.busy(1, 3), 1);
        g.broken(1, false);
        due("the box stays as it is", g.back(0), 11);
        due("broken once more", g.about(10), 1);
        g.fire(0, 0);
        due("a box is kept anew", g.image(0), 1);
        g.fire(1, 1);
        due("back to the newer", g.back(0), 1);
    }

    private static void about() {
        PulseGrid g = grid("size 4 7; let x = x(-1,0) + x(-1,0) * -(2); let y = x(0,0) + y(0,-2) edge i; fire 3 -4; onto -1 2;");
        g.workers(8);
        g.broken(3, true);
        g.broken(5, true);
        g.workers(9);
        g.undo();
        g.feed(0, 0, 0, 0, 0);
        int[] want = {4, 7, 2, 2, 4, 3, -4, -1, 2, 8, 2, 8, 3, 1, 20};
        for (int k = 0; k < want.length; k++) {
            due("about(" + k + ")", g.about(k), want[k]);
        }
        for (int no : new int[] {15, -1, MIN, MAX}) {
            due("about(" + no + ")", g.about(no), -1000);
        }
    }
}
