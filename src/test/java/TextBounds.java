/** Boundary cases of a text: its lines, tokens, formulas, numbers, names and what there is at most of each. */
final class TextBounds {
    private static final String TERMS = "Terms";
    private static final String HEAD = "size 1 1; ";
    private static final String ONES = "1" + "+1".repeat(39);
    private static final String READS = "a(1,0)" + "+a(1,0)".repeat(11);
    private static final String GREATEST = "(999*999*999*2+999*999*153+999*784+280)";
    private static final String LEAST = "(-" + GREATEST + "-1)";

    private TextBounds() {
    }

    static void test() {
        atMost800Bytes();
        lines();
        eachLine();
        numberWithMinus();
        lesserAndGreaterChains();
        sums();
        products();
        units();
        tokens();
        sizeLine();
        letLine();
        layoutLines();
        formulas();
        faultPlaces();
        faultKinds();
        emptyText();
        wrapping();
        lesserAndGreater();
    }

    private static int valueOf(String formula) {
        return Bounds.grid(HEAD + "let a = " + formula + ";").value(0, 0, 0);
    }

    private static void atMost800Bytes() {
        Sentences.says(TERMS, "A LOOP is a text of at most 800 bytes");
        String whole = "size 1 1;" + " ".repeat(782) + "fire 1 2;";
        Sentences.due("bytes", whole.length(), 800);
        Sentences.due("q of a text of 800 bytes", Bounds.grid(whole).about(6), 2);
        Bounds.fine(whole);
        Bounds.faulty(whole.substring(0, 799), 1, 799);
        Bounds.faulty(whole.substring(0, 799) + "$", 1, 799);
        Bounds.faulty(whole.substring(0, 799) + " ", 1, 800);
        Bounds.faulty(whole.substring(0, 798) + "12", 2, 798);
        Bounds.faulty("size 1 1" + " ".repeat(791) + "1", 1, 799);
        Bounds.faulty("size 1" + " ".repeat(793) + "1", 1, 800);
        Bounds.faulty("size 1 1;" + " ".repeat(788) + "let", 1, 800);
        PulseGrid g = new PulseGrid();
        Check.write(g, whole);
        Sentences.due("byte 801", g.feed(0, 0, 0, 0, 0), Bounds.NONE);
        Sentences.due("loop() of the 800", g.loop(), 0);
    }

    private static void lines() {
        Sentences.says(TERMS, "{line}");
        Bounds.fine("");
        Bounds.fine("size 1 1;");
        Bounds.fine("size 1 1;fire 1 1;onto 1 0;let a = 1;let b = 1;let c = 1;");
        Bounds.fine("size 1 1;let a = 1;onto 1 0;let b = 1;fire 1 1;let c = 1;");
        Bounds.faulty("size 1 1;;", 1, 9);
        Bounds.faulty(";", 1, 0);
    }

    private static void eachLine() {
        Sentences.says(TERMS, "line = size N N ; | let NAME = e [edge e] ; | fire n n ; | onto n n ;");
        Bounds.faulty("size 1 1", 1, 8);
        Bounds.faulty("size 1;", 1, 6);
        Bounds.faulty("size 1 1 1;", 1, 9);
        Bounds.fine(HEAD + "let a = 1;");
        Bounds.fine(HEAD + "let a = 1 edge 2;");
        Bounds.faulty(HEAD + "let a = 1", 1, 19);
        Bounds.faulty(HEAD + "let a = 1 edge 2", 1, 26);
        Bounds.faulty(HEAD + "let a = 1 edge;", 1, 24);
        Bounds.faulty(HEAD + "let a = 1 edge 2 edge 3;", 1, 27);
        Bounds.faulty(HEAD + "let a = ;", 1, 18);
        Bounds.faulty(HEAD + "let a 1;", 1, 16);
        Bounds.faulty(HEAD + "let = 1;", 1, 14);
        Bounds.faulty(HEAD + "fire 1;", 1, 16);
        Bounds.faulty(HEAD + "fire 1 1 1;", 1, 19);
        Bounds.faulty(HEAD + "fire 1 1", 1, 18);
        Bounds.faulty(HEAD + "onto 1;", 1, 16);
        Bounds.faulty(HEAD + "onto 1 0 0;", 1, 19);
        Bounds.faulty(HEAD + "onto 1 0", 1, 18);
    }

    private static void numberWithMinus() {
        Sentences.says(TERMS, "n = [-] N");
        Bounds.fine(HEAD + "fire -1 - 2;");
        Sentences.due("q of - 2", Bounds.grid(HEAD + "fire -1 - 2;").about(6), -2);
        Sentences.due("p of -0", Bounds.grid(HEAD + "fire -0 1;").about(5), 0);
        Bounds.faulty(HEAD + "fire --1 1;", 1, 16);
        Bounds.faulty(HEAD + "fire +1 1;", 1, 15);
        Bounds.faulty(HEAD + "fire (1) 1;", 1, 15);
        Bounds.faulty(HEAD + "fire - ;", 1, 17);
        Bounds.faulty(HEAD + "onto 1 --1;", 1, 18);
        Bounds.faulty(HEAD + "let a = a(--1,0);", 1, 21);
        Bounds.faulty("size -1 1;", 1, 5);
        Bounds.faulty("size 1 -1;", 1, 7);
    }

    private static void lesserAndGreaterChains() {
        Sentences.says(TERMS, "e = sum {(\u2039 | \u203a) sum}");
        Sentences.due("7", valueOf("7"), 7);
        Sentences.due("7 < 2", valueOf("7 < 2"), 2);
        Sentences.due("one behind another: 7 > 2 < 3", valueOf("7 > 2 < 3"), 3);
        Sentences.due("one behind another: 3 < 2 > 7", valueOf("3 < 2 > 7"), 7);
        Sentences.due("sums first: 1 + 2 < 2 + 2", valueOf("1 + 2 < 2 + 2"), 3);
        Sentences.due("sums first: 9 - 1 > 9 - 2", valueOf("9 - 1 > 9 - 2"), 8);
        Sentences.due("of an edge, too", valueOf("a(1,0) edge 7 > 2 < 3"), 3);
        Bounds.faulty(HEAD + "let a = 1 <;", 1, 21);
        Bounds.faulty(HEAD + "let a = > 1;", 1, 18);
        Bounds.faulty(HEAD + "let a = 1 << 1;", 1, 21);
        Bounds.fine(HEAD + "let a = 1" + "<1".repeat(39) + ";");
    }

    private static void sums() {
        Sentences.says(TERMS, "sum = term {(+ | -) term}");
        Sentences.due("10 - 3 - 2", valueOf("10 - 3 - 2"), 5);
        Sentences.due("10 - 3 + 2", valueOf("10 - 3 + 2"), 9);
        Sentences.due("1 + 2 * 3", valueOf("1 + 2 * 3"), 7);
        Bounds.faulty(HEAD + "let a = 1 +;", 1, 21);
        Bounds.faulty(HEAD + "let a = +1;", 1, 18);
        Bounds.faulty(HEAD + "let a = 1 + + 1;", 1, 22);
        Sentences.due("40 terms", valueOf(ONES), 40);
    }

    private static void products() {
        Sentences.says(TERMS, "term = unit {* unit}");
        Sentences.due("2 * 3 * 4", valueOf("2 * 3 * 4"), 24);
        Sentences.due("2 * -3", valueOf("2 * -3"), -6);
        Bounds.faulty(HEAD + "let a = 1 *;", 1, 21);
        Bounds.faulty(HEAD + "let a = * 1;", 1, 18);
        Bounds.faulty(HEAD + "let a = 2 3;", 1, 20);
        Sentences.due("40 units", valueOf("1" + "*1".repeat(39)), 1);
    }

    private static void units() {
        Sentences.says(TERMS, "unit = N | i | j | NAME ( n , n ) | ( e ) | - unit");
        Sentences.due("-(1 < 2) - --3", valueOf("-(1 < 2) - --3"), -4);
        PulseGrid g = Bounds.grid("size 3 4; let a = i * 10 + j;");
        Sentences.due("i and j at the last point", g.value(0, 2, 3), 23);
        Bounds.faulty(HEAD + "let a = ();", 1, 19);
        Bounds.faulty(HEAD + "let a = (1;", 1, 20);
        Bounds.faulty(HEAD + "let a = 1);", 1, 19);
        Bounds.faulty(HEAD + "let a = -;", 1, 19);
        Bounds.faulty(HEAD + "let a = a;", 1, 19);
        Bounds.faulty(HEAD + "let a = a(1);", 1, 21);
        Bounds.faulty(HEAD + "let a = a(1,);", 1, 22);
        Bounds.faulty(HEAD + "let a = a(,1);", 1, 20);
        Bounds.faulty(HEAD + "let a = a(1 1);", 1, 22);
        Bounds.faulty(HEAD + "let a = a(1,1;", 1, 23);
        Bounds.faulty(HEAD + "let a = a(1,1 + $;", 1, 24);
        Bounds.faulty(HEAD + "let a = (1 ; + $);", 1, 21);
        Bounds.faulty(HEAD + "let a = a(1,1,1);", 1, 23);
        Bounds.faulty(HEAD + "let a = a(i,1);", 1, 20);
        Bounds.faulty(HEAD + "let a = i(1,1);", 1, 19);
    }

    private static void tokens() {
        blanks();
        asLongAsCanBe();
        words();
        numbers();
        signs();
        noNames();
    }

    private static void blanks() {
        Sentences.says(TERMS, "TOKENS, blanks (32, 10) aside");
        Bounds.fine("\n size \n1\n1 ;\n\n let a\n=\n1\n;\n");
        Bounds.fine("size1 1;let a=a(-1,0)*1edge1;fire-1-1;onto-1 0;");
        Bounds.fine("   ");
        Bounds.fine("\n");
        for (int no : new int[] {0, 9, 11, 13, 31, 33, 42, 127, 128 + 10, 128 + 32, 255}) {
            Bounds.faulty("size 1 1;" + (char) no, 1, 9);
            Bounds.faulty("size" + (char) no + "1 1;", 1, 4);
        }
    }

    private static void asLongAsCanBe() {
        Sentences.says(TERMS, "each as long as can be");
        Bounds.faulty("size 1 12;", 2, 7);
        Bounds.faulty("size 1 1 0;", 1, 9);
        Bounds.faulty("sizes 1 1;", 1, 0);
        Bounds.faulty("siz e 1 1;", 1, 0);
        Bounds.faulty(HEAD + "letx = 1;", 1, 10);
        Bounds.faulty(HEAD + "let a = 1 edgex;", 1, 20);
        Bounds.faulty(HEAD + "let a = ij;", 3, 18);
        Bounds.faulty(HEAD + "let a = i j;", 1, 20);
        Bounds.fine(HEAD + "let ab = 1; let a = ab(1,1); let b = a(1,1);");
        String longest = "a".repeat(200);
        Bounds.fine(HEAD + "let " + longest + " = 1; let " + longest + "b = " + longest + "(0,0);");
        Bounds.faulty(HEAD + "let " + longest + " = 1; let " + longest + " = 1;", 3, 224);
    }

    private static void words() {
        Sentences.says(TERMS, "words (a .. z)");
        Bounds.fine(HEAD + "let a = 1; let z = a(1,1); let abcdefghijklmnopqrstuvwxyz = z(1,1);");
        for (int no : new int[] {'a' - 1, 'z' + 1, 'A', 'Z', '_', 128 + 'a', 128 + 'z'}) {
            Bounds.faulty(HEAD + "let " + (char) no + " = 1;", 1, 14);
            Bounds.faulty(HEAD + "let a" + (char) no + " = 1;", 1, 15);
        }
        Bounds.faulty(HEAD + "let a1 = 1;", 1, 15);
        Bounds.faulty(HEAD + "LET a = 1;", 1, 10);
    }

    private static void numbers() {
        Sentences.says(TERMS, "numbers (digits)");
        Sentences.due("0123456789 has all digits: 123", valueOf("0123") + valueOf("456") + valueOf("789"), 1368);
        Bounds.fine("size 0000000010 01;");
        for (int no : new int[] {'0' - 1, '9' + 1, '.', 128 + '0', 128 + '9'}) {
            Bounds.faulty("size " + (char) no + " 1;", 1, 5);
            Bounds.faulty("size 1" + (char) no + " 1;", 1, 6);
        }
        Bounds.fine("size " + "0".repeat(700) + "1 1;");
        Bounds.faulty("size " + "9".repeat(700) + " 1;", 2, 5);
    }

    private static void signs() {
        Sentences.says(TERMS, "the signs ; = ( ) , + - * \u2039 \u203a .");
        for (int sign = 0; sign < 256; sign++) {
            boolean isBlank = sign == 32 || sign == 10;
            Bounds.faulty("size 1 1;" + (char) sign, isBlank ? 0 : 1, isBlank ? -1 : 9);
            String text = HEAD + "let a = 1" + (char) sign + "2;";
            boolean joins = "+-*<>0123456789".indexOf(sign) >= 0;
            boolean ends = isBlank || sign == ';';
            Bounds.faulty(text, joins ? 0 : 1, joins ? -1 : ends ? 20 : 19);
        }
    }

    private static void noNames() {
        Sentences.says(TERMS, "size let fire onto edge i j are no NAMES");
        for (String word : "size let fire onto edge i j".split(" ")) {
            Bounds.faulty(HEAD + "let " + word + " = 1;", 1, 14);
            Bounds.fine(HEAD + "let " + word + "x = 1; let x" + word + " = " + word + "x(1,1);");
            if (word.length() > 1) {
                Bounds.faulty(HEAD + "let a = " + word + "(1,1);", 1, 18);
                Bounds.fine(HEAD + "let " + word.substring(1) + " = 1;");
            }
        }
    }

    private static void sizeLine() {
        Sentences.says(TERMS, "size is the first line and no other one");
        Bounds.faulty("fire 1 1;", 1, 0);
        Bounds.faulty(" onto 1 0; size 1 1;", 1, 1);
        Bounds.faulty("let a = 1;", 1, 0);
        Bounds.faulty("size 1 1; size 1 1;", 1, 10);
        Bounds.faulty(HEAD + "let a = 1; size 1 1;", 1, 21);
        Sentences.says(TERMS, "(ROWS, COLUMNS 1 .. 10)");
        for (int n = 1; n <= 10; n++) {
            Sentences.due("rows " + n, Bounds.grid("size " + n + " 1;").about(0), n);
            Sentences.due("columns " + n, Bounds.grid("size 1 " + n + ";").about(1), n);
        }
        Sentences.due("10 by 10", Bounds.grid("size 10 10;").plan(1), 19);
        for (String no : new String[] {"0", "11", "00", "100", "256", "257", "65537", "4294967297", "18446744073709551617"}) {
            Bounds.faulty("size " + no + " 1;", 2, 5);
            Bounds.faulty("size 1 " + no + ";", 2, 7);
        }
    }

    private static void letLine() {
        Sentences.says(TERMS, "let: at most 3 VARIABLES, numbered as told");
        PulseGrid g = Bounds.grid(HEAD + "let c = 11; let a = 22; let b = 33;");
        Sentences.due("three", g.about(2), 3);
        Sentences.due("their values", new int[] {g.value(0, 0, 0), g.value(1, 0, 0), g.value(2, 0, 0)}, 11, 22, 33);
        Bounds.faulty(HEAD + "let c = 11; let a = 22; let b = 33; let d = 44;", 4, 46);
        Sentences.says(TERMS, "each NAME once");
        Bounds.faulty(HEAD + "let a = 1; let a = 2;", 3, 25);
        Bounds.faulty(HEAD + "let a = 1; let b = 1; let b = 2;", 3, 36);
        Bounds.faulty(HEAD + "let a = 1; let b = 1; let a = 2;", 3, 36);
        Bounds.fine(HEAD + "let a = 1; let aa = 2; let aaa = 3;");
        Sentences.says(TERMS, "edge: the formula of its EDGE (0 if not told)");
        Sentences.due("not told", valueOf("a(1,0)"), 0);
        Sentences.due("told", valueOf("a(1,0) edge 7"), 7);
        PulseGrid mixed = Bounds.grid(HEAD + "let a = 1 edge 5; let b = a(0,1) edge 0 - 6; let c = b(0,1) + c(1,0) * 100 + a(0,-1);");
        Sentences.due("each its own", mixed.value(2, 0, 0), -6 + 5);
        PulseGrid all = Bounds.grid(HEAD + "let a = 1 edge 5; let b = a(0,1) edge 6; let c = c(1,0) * 100 + b(0,1) * 10 + a(0,-1) edge 7;");
        Sentences.due("that of the last variable, too", all.value(2, 0, 0), 765);
        Sentences.says(TERMS, "in which there is no NAME");
        Bounds.faulty(HEAD + "let a = 1 edge a(1,0);", 3, 25);
        Bounds.faulty(HEAD + "let a = 1; let b = 1 edge a(0,0);", 3, 36);
        Bounds.faulty(HEAD + "let a = 1; let b = 1 edge 1 + q;", 3, 40);
        Bounds.fine(HEAD + "let a = 1 edge i * j; let b = a(1,0);");
    }

    private static void layoutLines() {
        Sentences.says(TERMS, "fire (each -9 .. 9; 1 1 if not told)");
        for (int n = -9; n <= 9; n++) {
            PulseGrid g = Bounds.grid(HEAD + "fire " + n + " " + -n + ";");
            Sentences.due("p, q of fire " + n, new int[] {g.about(5), g.about(6)}, n, -n);
        }
        Bounds.faulty(HEAD + "fire 10 1;", 2, 15);
        Bounds.faulty(HEAD + "fire 1 10;", 2, 17);
        Bounds.faulty(HEAD + "fire -10 1;", 2, 16);
        Bounds.faulty(HEAD + "fire 1 -10;", 2, 18);
        Bounds.faulty(HEAD + "fire 4294967297 1;", 2, 15);
        PulseGrid g = Bounds.grid(HEAD);
        Sentences.due("not told", new int[] {g.about(5), g.about(6)}, 1, 1);
        Sentences.says(TERMS, "and onto (each -3 .. 3, not both 0, with no common divisor but 1; 1 0 if not told)");
        Sentences.due("not told", new int[] {g.about(7), g.about(8)}, 1, 0);
        for (int a = -3; a <= 3; a++) {
            for (int b = -3; b <= 3; b++) {
                ontoLine(a, b);
            }
        }
        Bounds.faulty(HEAD + "onto 4 1;", 2, 15);
        Bounds.faulty(HEAD + "onto 1 4;", 2, 17);
        Bounds.faulty(HEAD + "onto -4 1;", 2, 16);
        Bounds.faulty(HEAD + "onto 1 -4;", 2, 18);
        Bounds.faulty(HEAD + "onto 1 5;", 2, 17);
        Sentences.says(TERMS, "once each");
        Bounds.faulty(HEAD + "fire 1 1; fire 1 1;", 1, 20);
        Bounds.faulty(HEAD + "onto 1 0; onto 1 0;", 1, 20);
        Bounds.faulty(HEAD + "onto 1 0; fire 1 1; onto 1 0;", 1, 30);
        Bounds.fine(HEAD + "onto 1 0; fire 1 1;");
    }

    private static void ontoLine(int a, int b) {
        String text = HEAD + "onto " + a + " " + b + ";";
        int m = Math.abs(a);
        int n = Math.abs(b);
        boolean can = m == 1 || n == 1 || m + n == 5;
        if (can) {
            PulseGrid g = Bounds.grid(text);
            Sentences.due(text, new int[] {g.about(7), g.about(8)}, a, b);
        } else {
            Bounds.faulty(text, 2, text.length() - 2);
        }
    }

    private static void formulas() {
        Sentences.says(TERMS, "N of e is 0 .. 999");
        Sentences.due("0", valueOf("0"), 0);
        Sentences.due("999", valueOf("999"), 999);
        Sentences.due("000999", valueOf("000999"), 999);
        for (String no : new String[] {"1000", "1001", "99999", "100000", "4294967297", "18446744073709551617"}) {
            Bounds.faulty(HEAD + "let a = " + no + ";", 2, 18);
            Bounds.faulty(HEAD + "let a = 1 edge " + no + ";", 2, 25);
            Bounds.faulty(HEAD + "let a = -" + no + ";", 2, 19);
        }
        readsOfNames();
        offsets();
        fortyUnits();
        twelveReads();
        withinFour();
    }

    private static void readsOfNames() {
        Sentences.says(TERMS, "NAME ( a , b ) is a READ of a VARIABLE told ahead, or of that which is told just now");
        Bounds.fine(HEAD + "let a = a(1,0); let b = a(0,0) + b(0,1); let c = a(0,0) + b(0,0) + c(1,1);");
        Bounds.faulty(HEAD + "let a = b(1,0); let b = 1;", 3, 18);
        Bounds.faulty(HEAD + "let a = 1; let b = c(1,0); let c = 1;", 3, 29);
        Bounds.faulty(HEAD + "let aa = a(1,0);", 3, 19);
        Bounds.faulty(HEAD + "let a = aa(1,0);", 3, 18);
    }

    private static void offsets() {
        Sentences.says(TERMS, "at an OFFSET a, b (each -3 .. 3; of that which is told just now not 0, 0)");
        for (int a = -3; a <= 3; a++) {
            for (int b = -3; b <= 3; b++) {
                boolean isZero = a == 0 && b == 0;
                PulseGrid g = Bounds.grid(HEAD + "let x = 1; let y = x(" + a + "," + b + ");");
                Sentences.due("offsets by " + a + ", " + b, g.about(3), isZero ? 0 : 1);
                Sentences.due("a of " + a + ", " + b, g.offset(0, 0), isZero ? -1000 : a);
                Sentences.due("b of " + a + ", " + b, g.offset(0, 1), isZero ? -1000 : b);
                String own = HEAD + "let x = x(" + a + "," + b + ");";
                Bounds.faulty(own, isZero ? 2 : 0, isZero ? 22 : -1);
            }
        }
        Bounds.faulty(HEAD + "let x = x(4,0);", 2, 20);
        Bounds.faulty(HEAD + "let x = x(-4,0);", 2, 21);
        Bounds.faulty(HEAD + "let x = x(1,4);", 2, 22);
        Bounds.faulty(HEAD + "let x = x(1,-4);", 2, 23);
        Bounds.faulty(HEAD + "let x = x(4294967297,0);", 2, 20);
        Bounds.faulty(HEAD + "let x = x(-0,-0);", 2, 24);
        Bounds.faulty(HEAD + "let x = 1; let y = x(0,0) + y(0,0);", 2, 42);
    }

    private static void fortyUnits() {
        Sentences.says(TERMS, "40 units in all (a READ is one, so is a ( e ), a - unit)");
        String[] forty = {ONES, "(1)" + "+(1)".repeat(19), "-1" + "+-1".repeat(19), READS + "+1".repeat(28),
            "(1" + "+1".repeat(38) + ")", "1" + "+1".repeat(38) + " edge 1", "i" + "+j".repeat(38) + " edge i"};
        for (String e : forty) {
            String text = HEAD + "let a = " + e;
            Sentences.due("units of " + e, Bounds.grid(text + ";").about(11), 40);
            Bounds.faulty(text + "+1;", 4, text.length() + 1);
            Bounds.faulty(text + "+(1);", 4, text.length() + 1);
            Bounds.faulty(text + "*-1;", 4, text.length() + 1);
            Bounds.faulty(text + "; let b = i;", 4, text.length() + 10);
        }
        String lines = HEAD + "let a = 1" + "+1".repeat(12) + " edge 1; let b = " + "1" + "+1".repeat(12) + " edge 1; let c = 1+1+1+1+1+1";
        Sentences.due("units of three variables", Bounds.grid(lines + "+1" + "+1".repeat(4) + " edge 1;").about(11), 40);
        Bounds.faulty(lines + "+1" + "+1".repeat(4) + " edge 1+1;", 4, lines.length() + 18);
        Sentences.due("none", Bounds.grid(HEAD).about(11), 0);
        Sentences.due("a read is one", Bounds.grid(HEAD + "let a = a(1,1);").about(11), 1);
        Sentences.due("( e ) is one, and what it has", Bounds.grid(HEAD + "let a = (1 + 1);").about(11), 3);
        Sentences.due("- unit is one, and its unit", Bounds.grid(HEAD + "let a = --1;").about(11), 3);
        String inner = HEAD + "let a = " + "1+".repeat(39) + "(";
        Bounds.faulty(inner + "1);", 4, inner.length());
        String minus = HEAD + "let a = " + "1+".repeat(39) + "-";
        Bounds.faulty(minus + "1;", 4, minus.length());
    }

    private static void twelveReads() {
        Sentences.says(TERMS, "at most 12 READS");
        String text = HEAD + "let a = " + READS;
        Sentences.due("reads", Bounds.grid(text + ";").about(4), 12);
        Bounds.faulty(text + "+a(1,0);", 4, text.length() + 1);
        Bounds.faulty(text + "; let b = a(0,0);", 4, text.length() + 10);
        Bounds.fine(text + "; let b = 1;");
        String zero = HEAD + "let a = 1; let b = a(0,0)" + "+a(0,0)".repeat(11);
        Sentences.due("reads at 0, 0", Bounds.grid(zero + ";").about(4), 12);
        Bounds.faulty(zero + "+b(1,1);", 4, zero.length() + 1);
        Sentences.due("none", Bounds.grid(HEAD + "let a = 1;").about(4), 0);
    }

    private static void withinFour() {
        Sentences.says(TERMS, "a unit within 4 others at most ( ( e ), - unit )");
        Sentences.due("((((5))))", valueOf("((((5))))"), 5);
        Sentences.due("----5", valueOf("----5"), 5);
        Sentences.due("-(-(5))", valueOf("-(-(5))"), 5);
        Bounds.fine(HEAD + "let a = ((((a(1,0) + 1))) + 2) * (((3))) edge ((((4))));");
        Bounds.faulty(HEAD + "let a = (((((5)))));", 4, 23);
        Bounds.faulty(HEAD + "let a = -----5;", 4, 23);
        Bounds.faulty(HEAD + "let a = (-(-(5)));", 4, 23);
        Bounds.faulty(HEAD + "let a = -(-(-5));", 4, 23);
        Bounds.faulty(HEAD + "let a = ((((((5))))));", 4, 23);
        Bounds.faulty(HEAD + "let a = ((((a(1,0)+(a(1,0))))));", 4, 30);
        Bounds.faulty(HEAD + "let a = 1 edge (((((5)))));", 4, 30);
        Bounds.fine(HEAD + "let a = (((1)+(1))+((1)+(1)))+(((1)+(1))+((1)+(1)));");
    }

    private static void faultPlaces() {
        Sentences.says(TERMS, "FAULTS, the first by its place");
        Bounds.faulty("size 0 11; $", 2, 5);
        Bounds.faulty(HEAD + "let a = 1; let a = $ 1000;", 3, 25);
        Bounds.faulty(HEAD + "let a = 1000 + b(1,0) $;", 2, 18);
        Bounds.faulty(HEAD + "let a = b(4,4) + 1000;", 3, 18);
        Bounds.faulty(HEAD + "let a = 1; let b = 1; let c = 1; let $", 4, 43);
        Bounds.faulty(HEAD + "onto 0 0 $", 2, 17);
        Bounds.faulty(HEAD + "onto 4 4;", 2, 15);
        Sentences.says(TERMS, "(a TOKEN's first byte; the end's, the text's length)");
        Bounds.faulty("size   11 1;", 2, 7);
        Bounds.faulty("\n\nsizes 1 1;", 1, 2);
        Bounds.faulty(HEAD + "let a = 1;   letter", 1, 23);
        Bounds.faulty("s", 1, 0);
        Bounds.faulty("size", 1, 4);
        Bounds.faulty("size ", 1, 5);
        Bounds.faulty("size 1 1; let a = 1 \n ", 1, 22);
        Bounds.faulty("size 1 1; fire", 1, 14);
        Sentences.says(TERMS, "of one place the least");
        Bounds.faulty(HEAD + "let a = " + ONES + "+;", 1, 98);
        Bounds.faulty(HEAD + "let a = " + ONES + "+", 1, 98);
        Bounds.faulty(HEAD + "let a = " + ONES + "+edge", 1, 98);
        Bounds.faulty(HEAD + "let a = " + ONES + "+1000;", 2, 98);
        Bounds.faulty(HEAD + "let a = " + ONES + "+b(1,0);", 3, 98);
        Bounds.faulty(HEAD + "let a = " + ONES + "+999;", 4, 98);
        Bounds.faulty(HEAD + "let a = (((((", 1, 23);
        Bounds.faulty(HEAD + "let a = (((((1000)))));", 2, 23);
        Bounds.faulty(HEAD + "let a = (((((b(1,0))))));", 3, 23);
        Bounds.faulty(HEAD + "let a = 1 edge (((((a(1,0))))));", 3, 30);
        Bounds.faulty(HEAD + "let a = " + READS + "+b(1,0);", 3, 102);
        Bounds.faulty(HEAD + "let a = " + READS + " edge a(1,0);", 3, 107);
    }

    private static void faultKinds() {
        strayToken();
        numberThatCannotBe();
        names();
        oneTooMany();
    }

    private static void strayToken() {
        Sentences.says(TERMS, "1 a TOKEN that is none, or can't stand there (size behind the first line, another line ahead of it, fire, onto a second"
                + " time: at its word)");
        Bounds.faulty("$", 1, 0);
        Bounds.faulty(HEAD + "let a = 1 $", 1, 20);
        Bounds.faulty(HEAD + "let a = , 1;", 1, 18);
        Bounds.faulty(HEAD + "a = 1;", 1, 10);
        Bounds.faulty(HEAD + "1", 1, 10);
        Bounds.faulty(HEAD + "edge 1;", 1, 10);
        Bounds.faulty(HEAD + "size 0 0;", 1, 10);
        Bounds.faulty("fire 99 99; size 1 1;", 1, 0);
        Bounds.faulty("onto 0 0; size 1 1;", 1, 0);
        Bounds.faulty("let i = 1; size 1 1;", 1, 0);
        Bounds.faulty(HEAD + "fire 1 1; fire 99 99;", 1, 20);
        Bounds.faulty(HEAD + "onto 1 1; onto 0 0;", 1, 20);
    }

    private static void numberThatCannotBe() {
        Sentences.says(TERMS, "2 a number that can't be (of an OFFSET 0, 0, of onto 0, 0, or a common divisor: the second number)");
        Bounds.faulty(HEAD + "let a = a(0,0);", 2, 22);
        Bounds.faulty(HEAD + "let a = a(0, 0 );", 2, 23);
        Bounds.faulty(HEAD + "let a = a(0,0", 2, 22);
        Bounds.faulty(HEAD + "onto 0 0;", 2, 17);
        Bounds.faulty(HEAD + "onto 0   0", 2, 19);
        Bounds.faulty(HEAD + "onto 2 2;", 2, 17);
        Bounds.faulty(HEAD + "onto -3 0;", 2, 18);
        Bounds.faulty(HEAD + "onto 0 2;", 2, 17);
        Bounds.faulty(HEAD + "onto 3 3;", 2, 17);
        Bounds.faulty(HEAD + "onto 4 0;", 2, 15);
    }

    private static void names() {
        Sentences.says(TERMS, "3 a NAME told already");
        Bounds.faulty(HEAD + "let abc = 1; let abc", 3, 27);
        Sentences.says(TERMS, "a NAME in e that none told ahead has (or just now)");
        Bounds.faulty(HEAD + "let a = a(1,0) + b(1,0); let b = 1;", 3, 27);
        Bounds.faulty(HEAD + "let a = b", 3, 18);
        Sentences.says(TERMS, "any NAME in an edge");
        Bounds.faulty(HEAD + "let a = 1 edge a", 3, 25);
        Bounds.faulty(HEAD + "let a = 1 edge (-b", 3, 27);
    }

    private static void oneTooMany() {
        Sentences.says(TERMS, "4 one too many (a VARIABLE, at let");
        Bounds.faulty(HEAD + "let a = 1; let b = 1; let c = 1; fire 1 1; let a = 1;", 4, 53);
        Bounds.faulty(HEAD + "let a = 1; let b = 1; let c = 1; let", 4, 43);
        Sentences.says(TERMS, "a unit too many, or within 5 others, at its first TOKEN");
        Bounds.faulty(HEAD + "let a = " + ONES + "+ (7);", 4, 99);
        Bounds.faulty(HEAD + "let a = " + ONES + "+ - 7;", 4, 99);
        Bounds.faulty(HEAD + "let a = ((((( - 7)))));", 4, 24);
        Sentences.says(TERMS, "a READ too many, at its NAME)");
        Bounds.faulty(HEAD + "let a = " + READS + "+ a(9,9);", 4, 103);
        Bounds.faulty(HEAD + "let a = " + READS + "+ a", 4, 103);
    }

    private static void emptyText() {
        Sentences.says(TERMS, "An empty text has no VARIABLES, one POINT.");
        PulseGrid g = Bounds.grid(Bounds.SUMS);
        Sentences.due("loop() of an empty tape", g.loop(), 0);
        Sentences.due("rows, columns, variables", new int[] {g.about(0), g.about(1), g.about(2)}, 1, 1, 0);
        Sentences.due("ordered(0, 0)", g.ordered(0, 0), 1);
        Sentences.due("ordered(0, 1)", g.ordered(0, 1), Bounds.NONE);
        Sentences.due("ordered(1, 0)", g.ordered(1, 0), Bounds.NONE);
        Sentences.due("value(0, 0, 0)", g.value(0, 0, 0), 0);
        Sentences.due("offsets, reads, units", new int[] {g.about(3), g.about(4), g.about(11)}, 0, 0, 0);
        Sentences.due("a text of no lines is no fault", g.fault(0), 0);
    }

    private static void wrapping() {
        Sentences.says(TERMS, "Numbers are ints that wrap");
        Sentences.due("the greatest", valueOf(GREATEST), Bounds.MAX);
        Sentences.due("the least", valueOf(LEAST), Bounds.MIN);
        Sentences.due("the greatest + 1", valueOf(GREATEST + " + 1"), Bounds.MIN);
        Sentences.due("the least - 1", valueOf(LEAST + " - 1"), Bounds.MAX);
        Sentences.due("- the least", valueOf("-" + LEAST), Bounds.MIN);
        Sentences.due("the greatest * 2", valueOf(GREATEST + " * 2"), -2);
        Sentences.due("the least * 2", valueOf(LEAST + " * 2"), 0);
        Sentences.due("999 * 999 * 999 * 999", valueOf("999*999*999*999"), 999 * 999 * 999 * 999);
        PulseGrid g = Bounds.grid("size 1 2; let x = x(0,-1) + 1 edge " + GREATEST + ";");
        Sentences.due("an edge that wraps", g.value(0, 0, 0), Bounds.MIN);
    }

    private static void lesserAndGreater() {
        Sentences.says(TERMS, "a \u2039 b is the lesser, a \u203a b the greater one of both");
        Sentences.due("3 < 4", valueOf("3 < 4"), 3);
        Sentences.due("4 < 3", valueOf("4 < 3"), 3);
        Sentences.due("4 < 4", valueOf("4 < 4"), 4);
        Sentences.due("3 > 4", valueOf("3 > 4"), 4);
        Sentences.due("4 > 3", valueOf("4 > 3"), 4);
        Sentences.due("4 > 4", valueOf("4 > 4"), 4);
        Sentences.due("-1 < 0", valueOf("-1 < 0"), -1);
        Sentences.due("-1 > 0", valueOf("-1 > 0"), 0);
        Sentences.due("the least < the greatest", valueOf(LEAST + " < " + GREATEST), Bounds.MIN);
        Sentences.due("the least > the greatest", valueOf(LEAST + " > " + GREATEST), Bounds.MAX);
        Sentences.due("the greatest < the least", valueOf(GREATEST + " < " + LEAST), Bounds.MIN);
    }
}
