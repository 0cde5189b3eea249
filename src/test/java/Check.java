/** Counts answers that are not the ones that are due, and prints them. */
final class Check {
    private static int calls;
    private static int wrong;

    private Check() {
    }

    static void due(String call, long got, long want) {
        calls++;
        if (got != want) {
            wrong++;
            if (wrong <= 50) {
                System.out.println(call + " answered " + got + ", due is " + want);
            }
        }
    }

    static void due(String call, boolean got, boolean want) {
        due(call, got ? 1 : 0, want ? 1 : 0);
    }

    static boolean hasFailed() {
        return wrong > 0;
    }

    static void finish(String test) {
        System.out.println(test + ": " + calls + " answers, " + wrong + " of them not as due");
        if (wrong > 0) {
            System.exit(1);
        }
    }

    /** Puts a text on the tape, the last bytes filled up with blanks, which are cut off again. */
    static void write(PulseGrid grid, String text) {
        int[] n = new int[5];
        int before = grid.about(14);
        for (int k = 0; k < text.length(); k += 20) {
            for (int w = 0; w < 5; w++) {
                n[w] = 0;
                for (int b = 0; b < 4; b++) {
                    int at = k + 4 * w + b;
                    n[w] = n[w] << 8 | (at < text.length() ? text.charAt(at) : ' ');
                }
            }
            grid.feed(n[0], n[1], n[2], n[3], n[4]);
        }
        grid.end(before + text.length());
    }
}
