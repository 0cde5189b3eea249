/** Boundary cases of the calls that change an object, and of those that keep it: promises 1 to 11, 43 to 45. */
final class CallBounds {
    private static final int BLANKS = 0x20202020;

    private CallBounds() {
    }

    static void test() {
        calls512();
        newObject();
        feed();
        end();
        loop();
        fault();
        fire();
        onto();
        workers();
        broken();
        undo();
        redo();
        image();
        back();
        about();
    }

    private static void calls512() {
        Sentences.says("What it is", "An object is used for at most 512 calls after it has been made; what later calls answer is free.");
        PulseGrid g = new PulseGrid();
        for (int k = 1; k <= 511; k++) {
            g.workers(1 + k % 12);
        }
        Sentences.due("call 512", g.workers(1), 1 + 511 % 12);
        PulseGrid fed = new PulseGrid();
        for (int k = 1; k <= 511; k++) {
            fed.feed(BLANKS, BLANKS, BLANKS, BLANKS, BLANKS);
        }
        Sentences.due("call 512 of another", fed.loop(), 0);
        for (int k = 1; k <= 2000; k++) {
            fed.broken(0, k % 2 == 1);
            fed.feed(k, k, k, k, k);
            fed.loop();
        }
    }

    private static int[] abouts(PulseGrid g) {
        int[] all = new int[15];
        for (int k = 0; k < all.length; k++) {
            all[k] = g.about(k);
        }
        return all;
    }

    private static void newObject() {
        Sentences.says(1, "One POINT, no VARIABLES.");
        PulseGrid g = new PulseGrid();
        Sentences.due("about(0 ..)", abouts(g), 1, 1, 0, 0, 0, 1, 1, 1, 0, 1, 0, 0, 0, 0, 0);
        Sentences.due("ordered(0, 0)", g.ordered(0, 0), 1);
        Sentences.due("ordered(0, 1)", g.ordered(0, 1), -1);
        Sentences.due("ordered(1, 0)", g.ordered(1, 0), -1);
        Sentences.due("plan", new int[] {g.plan(0), g.plan(1), g.plan(2), g.plan(3), g.plan(4), g.plan(5), g.plan(6)}, 1, 1, 1, 0, 0, 1, 0);
        Sentences.due("nothing to take back, or do again", g.undo() || g.redo(), false);
        Sentences.due("empty boxes", new int[] {g.back(0), g.back(1)}, -1, -1);
        Bounds.alike("an empty text", Bounds.grid(""), new PulseGrid());
    }

    private static void feed() {
        Sentences.says(2, "Twenty bytes come behind those on the TAPE, of each number the highest first: how many there are");
        PulseGrid g = new PulseGrid();
        // "size 4 5;let x = i;;", the last byte cut off, then " fire 8 9" in its place.
        Sentences.due("the first", g.feed(0x73697a65, 0x20342035, 0x3b6c6574, 0x2078203d, 0x20693b3b), 20);
        g.end(19);
        Sentences.due("behind 19", g.feed(0x20666972, 0x65203820, 0x393b2020, BLANKS, BLANKS), 39);
        Sentences.due("loop()", g.loop(), 1);
        Sentences.due("its size, schedule", new int[] {g.about(0), g.about(1), g.about(5), g.about(6)}, 4, 5, 8, 9);
        Sentences.due("bytes above 127 stay bytes", g.feed(0xffffffff, 0x80808080, -1, Bounds.MIN, Bounds.MAX), 20);
        Sentences.due("loop() of these", g.loop(), -1);
        Sentences.due("fault", new int[] {g.fault(0), g.fault(1)}, 1, 0);
        Sentences.says(2, "NONE, and nothing comes, if there would be more than 800");
        for (int k = 1; k <= 40; k++) {
            Sentences.due("feed " + k, g.feed(BLANKS, BLANKS, BLANKS, BLANKS, BLANKS), 20 * k);
        }
        Sentences.due("feed 41", g.feed(0, 0, 0, 0, 0), -1);
        Sentences.due("bytes", g.about(14), 800);
        for (int n = 799; n > 780; n--) {
            g.end(n);
            Sentences.due("feed behind " + n, g.feed(0, 0, 0, 0, 0), -1);
            Sentences.due("bytes as before", g.about(14), n);
        }
        g.end(780);
        Sentences.due("feed behind 780", g.feed(BLANKS, BLANKS, BLANKS, BLANKS, BLANKS), 800);
        Sentences.due("of what was refused nothing came", g.loop(), 0);
        PulseGrid full = full();
        full.feed(0, 0, 0, 0, 0);
        Bounds.alike("a refused feed()", full, full());
    }

    private static PulseGrid full() {
        PulseGrid g = Bounds.lively();
        g.end(0);
        Check.write(g, "size 3 2;" + " ".repeat(790));
        return g;
    }

    private static void end() {
        Sentences.says(3, "The TAPE has its first n bytes alone: n");
        PulseGrid g = new PulseGrid();
        Sentences.due("end(0) of an empty one", g.end(0), 0);
        Check.write(g, "size 7 8;$$$");
        Sentences.due("end(12), all there are", g.end(12), 12);
        Sentences.due("end(9)", g.end(9), 9);
        Sentences.due("bytes", g.about(14), 9);
        Sentences.due("loop()", g.loop(), 0);
        Sentences.due("its size", new int[] {g.about(0), g.about(1)}, 7, 8);
        Check.write(g, "size 1 11111");
        Sentences.due("end(8), within a number", g.end(8), 8);
        g.loop();
        Sentences.due("its end", new int[] {g.fault(0), g.fault(1)}, 1, 8);
        Check.write(g, "sizes 1 1;");
        Sentences.due("end(4), within a word", g.end(4), 4);
        g.loop();
        Sentences.due("the end of that", new int[] {g.fault(0), g.fault(1)}, 1, 4);
        Check.write(g, "$$$");
        Sentences.due("end(0)", g.end(0), 0);
        Sentences.due("loop() of none", g.loop(), 0);
        Sentences.says(3, "NONE, and nothing happens, if it has not so many");
        Sentences.due("end(1) of an empty one", g.end(1), -1);
        g.feed(0, 0, 0, 0, 0);
        for (int no : new int[] {21, 22, 800, 801, Bounds.MAX}) {
            Sentences.due("end(" + no + ") of 20", g.end(no), -1);
            Sentences.due("bytes", g.about(14), 20);
        }
        g.end(7);
        Sentences.due("end(8) of 7", g.end(8), -1);
        PulseGrid one = Bounds.lively();
        one.end(21);
        Bounds.alike("end(21) of 20", one, Bounds.lively());
        Sentences.says(3, "or n is below 0");
        PulseGrid other = Bounds.lively();
        for (int no : new int[] {-1, -2, -20, -256, Bounds.MIN, Bounds.MIN + 20}) {
            Sentences.due("end(" + no + ")", other.end(no), -1);
        }
        Bounds.alike("end() below 0", other, Bounds.lively());
    }

    private static void loop() {
        Sentences.says(4, "The TAPE (empty then) is the LOOP (SCHEDULE and LINE as told");
        PulseGrid g = new PulseGrid();
        g.fire(5, 5);
        g.onto(1, 1);
        Check.write(g, "size 3 4; let x = 1; let y = x(0,1); fire -9 9; onto -2 3;");
        Sentences.due("loop()", g.loop(), 2);
        Sentences.due("about(0 ..)", abouts(g), 3, 4, 2, 1, 1, -9, 9, -2, 3, 1, 0, 2, 0, 0, 0);
        Check.write(g, "size 3 4;");
        g.loop();
        Sentences.due("if not told, not as before", new int[] {g.about(5), g.about(6), g.about(7), g.about(8)}, 1, 1, 1, 0);
        Sentences.due("bytes", g.about(14), 0);
        Sentences.due("loop() of the empty tape", g.loop(), 0);
        Sentences.due("one point then", g.about(0) * g.about(1), 1);
        oneBehindAnother();
        whatIsNew();
        Sentences.says(4, "how many VARIABLES");
        String[] lets = {"", "let a = 1;", "let a = 1; let b = 1;", "let a = 1; let b = 1; let c = 1;"};
        for (int k = 0; k <= 3; k++) {
            Check.write(g, "size 1 1;" + lets[k]);
            Sentences.due("loop() of " + k, g.loop(), k);
        }
        Sentences.says(4, "NONE, and all stays: a FAULT");
        for (String text : new String[] {"x", "size 0 1;", "size 1 1; let a = b(1,1);", "size 1 1; let a = (((((1)))));", "size 9 9; fire 9 9; onto 2 2;"}) {
            PulseGrid one = Bounds.lively();
            one.end(0);
            Check.write(one, text);
            Sentences.due("loop() of " + text, one.loop(), -1);
            Sentences.due("bytes", one.about(14), 0);
            PulseGrid other = Bounds.lively();
            other.end(0);
            Check.write(other, text);
            other.loop();
            other.loop();
            Sentences.due("another loop() takes the empty tape", other.about(2), 0);
            sameButFault(text, one);
        }
    }

    // Nothing of an earlier text, whether it was taken or not, is left for a later one.
    private static void oneBehindAnother() {
        String full = "size 3 4; let a = 1+a(-1,0)+a(0,-1)+a(-1,-1)+a(-2,0) edge i < j; let b = a(0,0)*2+b(-1,0) edge 3;"
                + " let c = b(0,0)+a(0,0)+c(-1,0) edge 1; fire 2 3; onto 2 -1;";
        String[] faulty = {"size 9 9; let q = q(1,1)+q(2,2) edge q", "size 9 9; fire 5 5; onto 3 3;", "size 9 9; let q = q(3,3)+q(2,1) edge 7;$"};
        PulseGrid g = new PulseGrid();
        PulseGrid fresh = Bounds.grid(full);
        for (int k = 0; k < 6; k++) {
            Check.write(g, full);
            Sentences.due("a full text, time " + k, g.loop(), 3);
            Sentences.due("about(0 ..), time " + k, abouts(g), 3, 4, 3, 4, 9, 2, 3, 2, -1, 1, 0, 15, 0, 0, 0);
            Sentences.due("offset 3, time " + k, new int[] {g.offset(3, 0), g.offset(3, 1)}, -2, 0);
            Sentences.due("c at the last point, time " + k, g.value(2, 2, 3), fresh.value(2, 2, 3));
            if (k % 2 == 0) {
                Check.write(g, faulty[k / 2]);
                g.loop();
            } else {
                Check.write(g, "size 2 1; let x = x(-1,0) edge 4;");
                g.loop();
                Sentences.due("a small one, time " + k, abouts(g), 2, 1, 1, 1, 1, 1, 1, 1, 0, 1, 0, 2, 0, 0, 0);
                Sentences.due("its tiles, flow, value", new int[] {g.tiles(1, 1, 1), g.tiles(1, 1, 3), g.flow(0, 0), g.value(0, 1, 0)}, 1, 2, 1, 4);
            }
        }
    }

    // A fault is told by fault() alone, so both must have met the same one, on different ways.
    private static void sameButFault(String text, PulseGrid one) {
        PulseGrid twin = Bounds.lively();
        twin.end(0);
        for (int k = 0; k < 3; k++) {
            Check.write(twin, text);
            twin.loop();
        }
        Sentences.due("workers, broken", new int[] {one.about(9), one.about(10)}, 4, 2);
        Sentences.due("to take back, to do again", new int[] {one.about(12), one.about(13)}, 5, 1);
        Sentences.due("p, q, a, b", new int[] {one.about(5), one.about(6), one.about(7), one.about(8)}, 2, 1, 0, 1);
        Sentences.due("x at the last point", one.value(0, 2, 2), 20);
        Bounds.alike("a loop() with a fault, " + text + ",", one, twin);
        PulseGrid boxed = Bounds.lively();
        boxed.end(0);
        Check.write(boxed, text);
        boxed.loop();
        Sentences.due("the full box", boxed.back(0), 7);
        Sentences.due("the empty box", boxed.back(1), -1);
    }

    private static void whatIsNew() {
        PulseGrid g = Bounds.lively();
        g.image(1);
        g.end(0);
        Check.write(g, "size 3 3; let x = 1; onto 0 1; fire 2 1;");
        g.loop();
        Sentences.says(4, "one WORKER");
        Sentences.due("workers", g.about(9), 1);
        Sentences.says(4, "no CELL BROKEN");
        Sentences.due("broken", new int[] {g.about(10), g.busy(0, 3), g.busy(1, 3), g.busy(2, 3), g.wrong()}, 0, 0, 0, 0, 0);
        Sentences.says(4, "no ACTS are kept");
        Sentences.due("acts", new int[] {g.about(12), g.about(13)}, 0, 0);
        Sentences.due("undo(), redo()", g.undo() || g.redo(), false);
        Sentences.says(4, "BOXES are empty)");
        Sentences.due("back(0), back(1)", new int[] {g.back(0), g.back(1)}, -1, -1);
    }

    private static void fault() {
        Sentences.says(5, "Of the latest loop() what 0: its FAULT (0: without; ahead of any, too)");
        PulseGrid g = new PulseGrid();
        Sentences.due("ahead of any", g.fault(0), 0);
        String[] texts = {"$", "size 0 1;", "size 1 1; let a = b(1,1);", "size 1 1; let a = (((((1)))));"};
        for (int k = 0; k < 4; k++) {
            Check.write(g, texts[k]);
            Sentences.due("ahead of loop(), as before", g.fault(0), k);
            g.loop();
            Sentences.due("fault(0) of " + texts[k], g.fault(0), k + 1);
        }
        g.fire(99, 99);
        g.undo();
        Sentences.due("no other call changes it", g.fault(0), 4);
        Check.write(g, "size 1 1; let a = 1 edge a(1,1);");
        g.loop();
        Check.write(g, "size 1 1; let a = a(1,1);");
        g.loop();
        Sentences.due("without, behind one in an edge", g.fault(0), 0);
        Check.write(g, "size 1 1;");
        g.loop();
        Sentences.due("without", g.fault(0), 0);
        Sentences.says(5, "1: its place (NONE)");
        Sentences.due("without: its place", g.fault(1), -1);
        Sentences.due("ahead of any: its place", new PulseGrid().fault(1), -1);
        Check.write(g, "$");
        g.loop();
        Sentences.due("the first byte", g.fault(1), 0);
        Check.write(g, "size 1 1;" + " ".repeat(790) + "$");
        g.loop();
        Sentences.due("the last byte", g.fault(1), 799);
        Check.write(g, "size 1 1" + " ".repeat(792));
        g.loop();
        Sentences.due("the end of a full tape", g.fault(1), 800);
        g.loop();
        Sentences.due("of the latest", g.fault(1), -1);
        Sentences.says(5, "NONE for another what");
        Check.write(g, "$");
        g.loop();
        for (int no : Bounds.beyond(0, 1)) {
            Sentences.due("fault(" + no + ")", g.fault(no), -1);
        }
    }

    private static void fire() {
        Sentences.says(6, "The SCHEDULE is p, q (each -9 .. 9)");
        for (int p = -9; p <= 9; p++) {
            PulseGrid g = Bounds.grid("size 2 2;");
            for (int q = -9; q <= 9; q++) {
                Sentences.due("fire(" + p + ", " + q + ")", g.fire(p, q), 1);
                Sentences.due("p, q", new int[] {g.about(5), g.about(6)}, p, q);
            }
        }
        Sentences.says(6, "1 if it is LAWFUL then, else 0");
        PulseGrid g = Bounds.grid(Bounds.SUMS);
        Sentences.due("fire(1, 1)", g.fire(1, 1), 1);
        Sentences.due("fire(1, 0)", g.fire(1, 0), 0);
        Sentences.due("fire(0, 1)", g.fire(0, 1), 0);
        Sentences.due("fire(9, 9)", g.fire(9, 9), 1);
        Sentences.due("fire(-9, -9)", g.fire(-9, -9), 0);
        Sentences.due("one that is not is taken, too", g.about(5), -9);
        Sentences.says(6, "NONE, doing nothing, if it can't be");
        PulseGrid one = Bounds.lively();
        for (int no : Bounds.beyond(-9, 9)) {
            Sentences.due("fire(" + no + ", 1)", one.fire(no, 1), -1);
            Sentences.due("fire(1, " + no + ")", one.fire(1, no), -1);
            Sentences.due("fire(" + no + ", " + no + ")", one.fire(no, no), -1);
        }
        Bounds.alike("a refused fire()", one, Bounds.lively());
    }

    private static void onto() {
        Sentences.says(7, "The LINE is a, b (as in a text): how many CELLS there are then");
        PulseGrid g = Bounds.grid("size 3 4;");
        for (int a = -3; a <= 3; a++) {
            for (int b = -3; b <= 3; b++) {
                java.util.Set<Integer> keys = new java.util.HashSet<>();
                for (int k = 0; k < 12; k++) {
                    keys.add(b * (k / 4) - a * (k % 4));
                }
                boolean can = Math.abs(a) == 1 || Math.abs(b) == 1 || Math.abs(a * b) == 6;
                int[] before = {g.about(7), g.about(8)};
                Sentences.due("onto(" + a + ", " + b + ")", g.onto(a, b), can ? keys.size() : -1);
                Sentences.due("a, b", new int[] {g.about(7), g.about(8)}, can ? new int[] {a, b} : before);
            }
        }
        Sentences.due("one point", new PulseGrid().onto(3, -2), 1);
        Sentences.due("the most", Bounds.grid("size 10 10;").onto(3, 2), 44);
        Sentences.says(7, "none of which is BROKEN");
        PulseGrid broken = Bounds.grid(Bounds.SUMS);
        broken.broken(0, true);
        broken.broken(2, true);
        broken.onto(1, 0);
        Sentences.due("by the same line", new int[] {broken.about(10), broken.busy(0, 3), broken.busy(2, 3)}, 0, 0, 0);
        broken.broken(1, true);
        broken.onto(1, 1);
        Sentences.due("by another line", new int[] {broken.about(10), broken.busy(1, 3), broken.wrong()}, 0, 0, 0);
        Sentences.says(7, "NONE, doing nothing, if it can't be");
        PulseGrid one = Bounds.lively();
        for (int no : Bounds.beyond(-3, 3)) {
            Sentences.due("onto(" + no + ", 1)", one.onto(no, 1), -1);
            Sentences.due("onto(1, " + no + ")", one.onto(1, no), -1);
            Sentences.due("onto(" + no + ", " + no + ")", one.onto(no, no), -1);
        }
        int[][] noLines = {{0, 0}, {2, 0}, {0, -2}, {3, 0}, {0, 3}, {2, 2}, {-2, 2}, {3, -3}};
        for (int[] no : noLines) {
            Sentences.due("onto(" + no[0] + ", " + no[1] + ")", one.onto(no[0], no[1]), -1);
        }
        Bounds.alike("a refused onto()", one, Bounds.lively());
    }

    private static void workers() {
        Sentences.says(8, "So many WORKERS (1 .. 12): how many there were");
        PulseGrid g = new PulseGrid();
        int before = 1;
        for (int n = 12; n >= 1; n--) {
            Sentences.due("workers(" + n + ")", g.workers(n), before);
            Sentences.due("about(9)", g.about(9), n);
            before = n;
        }
        Sentences.due("workers(1) again", g.workers(1), 1);
        Sentences.says(8, "NONE, doing nothing, if it can't be");
        PulseGrid one = Bounds.lively();
        for (int no : Bounds.beyond(1, 12)) {
            Sentences.due("workers(" + no + ")", one.workers(no), -1);
        }
        Bounds.alike("a refused workers()", one, Bounds.lively());
    }

    private static void broken() {
        Sentences.says(9, "A CELL is BROKEN, or not: how many are then");
        PulseGrid g = Bounds.grid("size 10 10; onto 3 -2;");
        for (int k = 0; k < 44; k++) {
            Sentences.due("broken(" + k + ", true)", g.broken(k, true), k + 1);
            Sentences.due("busy(" + k + ", 3)", g.busy(k, 3), 1);
        }
        for (int k = 43; k >= 0; k--) {
            Sentences.due("broken(" + k + ", false)", g.broken(k, false), k);
            Sentences.due("busy(" + k + ", 3) then", g.busy(k, 3), 0);
        }
        Sentences.says(9, "NONE, doing nothing, if there is none such");
        PulseGrid one = Bounds.lively();
        for (int no : Bounds.noCells(one)) {
            Sentences.due("broken(" + no + ", true)", one.broken(no, true), -1);
            Sentences.due("broken(" + no + ", false)", one.broken(no, false), -1);
        }
        Bounds.alike("broken() of no cell", one, Bounds.lively());
        PulseGrid fewer = Bounds.grid("size 10 10; onto 3 -2;");
        Sentences.due("the last cell", fewer.broken(43, true), 1);
        fewer.onto(1, 0);
        Sentences.due("it is none by another line", fewer.broken(43, true), -1);
        Sentences.due("the last one there", fewer.broken(9, true), 1);
        Sentences.due("one behind it", fewer.broken(10, true), -1);
        Sentences.says(9, "or it is so");
        PulseGrid so = Bounds.lively();
        Sentences.due("broken(1, true) of one that is", so.broken(1, true), -1);
        Sentences.due("broken(2, true) of one that is", so.broken(2, true), -1);
        Sentences.due("broken(0, false) of one that is not", so.broken(0, false), -1);
        Bounds.alike("broken() of one that is so", so, Bounds.lively());
    }

    private static void undo() {
        Sentences.says(10, "UNDO: true");
        PulseGrid g = Bounds.grid(Bounds.SUMS);
        g.fire(2, 1);
        g.broken(1, true);
        g.onto(0, 1);
        g.workers(4);
        Sentences.due("undo() of workers()", g.undo(), true);
        Sentences.due("workers", g.about(9), 1);
        Sentences.due("undo() of onto()", g.undo(), true);
        Sentences.due("a, b, and what it mended", new int[] {g.about(7), g.about(8), g.about(10), g.busy(1, 3)}, 1, 0, 1, 1);
        Sentences.due("undo() of broken()", g.undo(), true);
        Sentences.due("broken", new int[] {g.about(10), g.busy(1, 3), g.wrong()}, 0, 0, 0);
        Sentences.due("undo() of fire()", g.undo(), true);
        Sentences.due("p, q, latency", new int[] {g.about(5), g.about(6), g.plan(1)}, 1, 1, 5);
        g.redo();
        Sentences.due("undo() of what was done again", g.undo(), true);
        Sentences.says(10, "false if there is none");
        Sentences.due("all were taken back", g.undo(), false);
        Sentences.due("it can be done again still", g.about(13), 4);
        Sentences.due("none was ever", new PulseGrid().undo(), false);
        PulseGrid behind = Bounds.lively();
        behind.back(0);
        Sentences.due("behind back()", behind.undo(), false);
        behind.workers(3);
        behind.end(0);
        behind.loop();
        Sentences.due("behind loop()", behind.undo(), false);
        PulseGrid fresh = new PulseGrid();
        fresh.undo();
        Bounds.alike("undo() of none", fresh, new PulseGrid());
    }

    private static void redo() {
        Sentences.says(11, "REDO: true");
        PulseGrid g = Bounds.grid(Bounds.SUMS);
        g.fire(2, 1);
        g.broken(1, true);
        g.onto(0, 1);
        g.workers(4);
        for (int k = 0; k < 4; k++) {
            g.undo();
        }
        Sentences.due("redo() of fire()", g.redo(), true);
        Sentences.due("p, q, latency", new int[] {g.about(5), g.about(6), g.plan(1)}, 2, 1, 7);
        Sentences.due("redo() of broken()", g.redo(), true);
        Sentences.due("broken", new int[] {g.about(10), g.busy(1, 3), g.wrong()}, 1, 1, 6);
        Sentences.due("redo() of onto()", g.redo(), true);
        Sentences.due("a, b, and what it mends", new int[] {g.about(7), g.about(8), g.about(10), g.wrong()}, 0, 1, 0, 0);
        Sentences.due("redo() of workers()", g.redo(), true);
        Sentences.due("workers", g.about(9), 4);
        Sentences.says(11, "false if there is none");
        Sentences.due("all were done again", g.redo(), false);
        Sentences.due("they can be taken back still", g.about(12), 4);
        Sentences.due("none was taken back", new PulseGrid().redo(), false);
        PulseGrid behind = Bounds.lively();
        behind.workers(2);
        Sentences.due("behind another act", behind.redo(), false);
        behind = Bounds.lively();
        behind.fire(2, 1);
        Sentences.due("behind an act that changes nothing", behind.redo(), false);
        behind = Bounds.lively();
        behind.back(0);
        Sentences.due("behind back()", behind.redo(), false);
        behind = Bounds.lively();
        behind.end(0);
        behind.loop();
        Sentences.due("behind loop()", behind.redo(), false);
        PulseGrid fresh = Bounds.grid(Bounds.SUMS);
        fresh.redo();
        Bounds.alike("redo() of none", fresh, Bounds.grid(Bounds.SUMS));
    }

    private static void image() {
        Sentences.says(43, "SCHEDULE, LINE, WORKERS, BROKEN CELLS are kept in a BOX (0, 1): LATENCY");
        for (int box = 0; box < 2; box++) {
            PulseGrid g = Bounds.grid(Bounds.SUMS);
            g.fire(-3, 2);
            g.onto(1, -1);
            g.workers(12);
            g.broken(4, true);
            Sentences.due("image(" + box + ")", g.image(box), 11);
            Sentences.due("it is no act", g.about(12), 4);
            g.fire(1, 1);
            g.broken(0, true);
            g.workers(2);
            g.onto(1, 0);
            Sentences.due("the other box is empty", g.back(1 - box), -1);
            Sentences.due("what is kept stays", g.back(box), 11);
            Sentences.due("about(5 ..)", new int[] {g.about(5), g.about(6), g.about(7), g.about(8), g.about(9), g.about(10), g.busy(4, 3)},
                    -3, 2, 1, -1, 12, 1, 1);
            g.fire(0, 0);
            Sentences.due("kept anew", g.image(box), 1);
            g.fire(9, 9);
            Sentences.due("back(" + box + ")", g.back(box), 1);
        }
        PulseGrid acts = Bounds.lively();
        acts.image(0);
        Sentences.due("acts stay", new int[] {acts.about(12), acts.about(13), acts.redo() ? acts.about(9) : -1}, 5, 1, 5);
        Sentences.due("the longest", Bounds.grid("size 10 10; fire -9 9;").image(1), 163);
        Sentences.says(43, "NONE if there is none such");
        PulseGrid one = Bounds.lively();
        for (int no : Bounds.beyond(0, 1)) {
            Sentences.due("image(" + no + ")", one.image(no), -1);
        }
        Bounds.alike("image() of no box", one, Bounds.lively());
    }

    private static void back() {
        Sentences.says(44, "They are as they were kept (nothing can be taken back, or done again then): LATENCY");
        PulseGrid g = Bounds.lively();
        g.image(1);
        g.fire(1, 1);
        g.onto(1, 1);
        g.workers(7);
        g.undo();
        Sentences.due("back(0)", g.back(0), 7);
        Sentences.due("about(5 ..)", new int[] {g.about(5), g.about(6), g.about(7), g.about(8), g.about(9), g.about(10)}, 2, 1, 0, 1, 4, 1);
        Sentences.due("to take back, to do again", new int[] {g.about(12), g.about(13)}, 0, 0);
        Sentences.due("undo(), redo()", g.undo() || g.redo(), false);
        Sentences.due("the run is that of before", g.wrong(), 6);
        Sentences.due("back(1)", g.back(1), 7);
        Sentences.due("its broken cells", new int[] {g.about(10), g.busy(1, 3), g.busy(2, 3)}, 2, 1, 1);
        Sentences.due("back(1) again", g.back(1), 7);
        g.workers(9);
        Sentences.due("acts are kept again", g.undo() ? g.about(9) : -1, 4);
        Sentences.says(44, "NONE, doing nothing, if nothing was");
        PulseGrid one = Bounds.lively();
        Sentences.due("back(1) of an empty box", one.back(1), -1);
        Bounds.alike("back() of an empty box", one, Bounds.lively());
        PulseGrid fresh = Bounds.grid(Bounds.SUMS);
        Sentences.due("back(0) of an empty box", fresh.back(0), -1);
        Bounds.alike("back() of an empty box", fresh, Bounds.grid(Bounds.SUMS));
        Sentences.says(44, "or there is no such BOX");
        PulseGrid other = Bounds.lively();
        for (int no : Bounds.beyond(0, 1)) {
            Sentences.due("back(" + no + ")", other.back(no), -1);
        }
        Bounds.alike("back() of no box", other, Bounds.lively());
    }

    private static void about() {
        Sentences.says(45, "What 0: ROWS, 1: COLUMNS, 2: VARIABLES, 3: OFFSETS, 4: READS, 5, 6: p, q, 7, 8: a, b of the LINE, 9: WORKERS, 10: BROKEN"
                + " CELLS, 11: units, 12: ACTS that can be taken back, 13: done again, 14: bytes on the TAPE.");
        Sentences.due("the least", abouts(new PulseGrid()), 1, 1, 0, 0, 0, 1, 1, 1, 0, 1, 0, 0, 0, 0, 0);
        StringBuilder text = new StringBuilder("size 10 9; let a = 1");
        for (int k = 0; k < 12; k++) {
            text.append("+a(").append(k / 4 - 3).append(',').append(k % 4).append(')');
        }
        text.append("+1".repeat(24)).append("; let b = 1 edge 1; let c = 1; fire -9 9; onto 3 -2;");
        PulseGrid g = Bounds.grid(text.toString());
        g.workers(12);
        for (int k = 0; k < 30; k++) {
            g.broken(k, true);
        }
        Check.write(g, " ".repeat(800));
        Sentences.due("the greatest", abouts(g), 10, 9, 3, 12, 12, -9, 9, 3, -2, 12, 30, 40, 20, 0, 800);
        for (int k = 0; k < 20; k++) {
            g.undo();
        }
        Sentences.due("all taken back", abouts(g), 10, 9, 3, 12, 12, -9, 9, 3, -2, 12, 10, 40, 0, 20, 800);
        Sentences.says(45, "-1000 for another what.");
        for (int no : Bounds.beyond(0, 14)) {
            Sentences.due("about(" + no + ")", g.about(no), -1000);
        }
    }
}
