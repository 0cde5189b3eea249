import java.util.Arrays;

/** Loops of two counters laid in space and time. The document, DOC.md, numbers what each method promises. */
public final class PulseGrid {
    public static final int NONE = -1;

    private static final int REFUSED = -1000;
    private static final int SIDE = 10;
    private static final int SQUARE = SIDE * SIDE;
    private static final int VARIABLES = 3;
    private static final int FACTOR = 9;
    private static final int STEP = 3;
    private static final int PAIR_FACTOR = 4;
    private static final int WORKERS = 12;
    private static final int BOXES = 2;

    private final Tape tape = new Tape();
    private Loop loop = new Loop();
    // A text with a fault must leave the loop as it is, so texts are read into this one.
    private Loop spare = new Loop();
    private final Parser parser = new Parser(tape, spare);
    private final History history = new History();
    private final Layout[] boxes = new Layout[BOXES];
    private final boolean[] boxFull = new boolean[BOXES];
    private final Web web = new Web();
    private final Placement placement = new Placement();
    private final Tiles tiles = new Tiles();
    private final Search search = new Search();
    private final int[] values = new int[VARIABLES * SQUARE];
    private final int[] runValues = new int[VARIABLES * SQUARE];
    private final int[] otherValues = new int[VARIABLES * SQUARE];
    private final Reckoner reckoner = new Reckoner(loop, web.depth, values);
    private boolean runIsFresh;

    public PulseGrid() {
        for (int k = 0; k < BOXES; k++) {
            boxes[k] = new Layout();
        }
        takeUp();
    }

    public int feed(int a, int b, int c, int d, int e) {
        if (tape.length + 20 > Tape.MOST) {
            return NONE;
        }
        tape.put(a);
        tape.put(b);
        tape.put(c);
        tape.put(d);
        tape.put(e);
        return tape.length;
    }

    public int end(int n) {
        if (n < 0 || n > tape.length) {
            return NONE;
        }
        tape.length = n;
        return n;
    }

    public int loop() {
        parser.parse(spare);
        tape.length = 0;
        if (parser.fault != 0) {
            return NONE;
        }
        Loop told = spare;
        spare = loop;
        loop = told;
        takeUp();
        return loop.variables;
    }

    public int fault(int what) {
        switch (what) {
            case 0: return parser.fault;
            case 1: return parser.place;
            default: return NONE;
        }
    }

    public int fire(int p, int q) {
        if (!isWithin(p, FACTOR) || !isWithin(q, FACTOR)) {
            return NONE;
        }
        Layout next = history.open();
        next.p = p;
        next.q = q;
        settle();
        return loop.isLawful(p, q) ? 1 : 0;
    }

    public int onto(int a, int b) {
        if (!isLine(a, b)) {
            return NONE;
        }
        Layout next = history.open();
        next.a = a;
        next.b = b;
        next.broken = 0L;
        settle();
        return placement.cells;
    }

    public int workers(int n) {
        if (n < 1 || n > WORKERS) {
            return NONE;
        }
        Layout next = history.open();
        int before = next.workers;
        next.workers = n;
        return before;
    }

    public int broken(int cell, boolean is) {
        if (!isCell(cell) || current().isBroken(cell) == is) {
            return NONE;
        }
        Layout next = history.open();
        next.broken ^= 1L << cell;
        settle();
        return Long.bitCount(next.broken);
    }

    public boolean undo() {
        if (!history.stepBack()) {
            return false;
        }
        settle();
        return true;
    }

    public boolean redo() {
        if (!history.stepOn()) {
            return false;
        }
        settle();
        return true;
    }

    public int value(int variable, int i, int j) {
        if (!isVariable(variable) || !loop.isInside(i, j)) {
            return 0;
        }
        return values[variable * SQUARE + i * SIDE + j];
    }

    public int ordered(int i, int j) {
        if (!loop.isInside(i, j)) {
            return NONE;
        }
        return web.isOrdered(i * SIDE + j) ? 1 : 0;
    }

    public int depth(int i, int j) {
        return loop.isInside(i, j) ? web.depth[i * SIDE + j] : NONE;
    }

    public int run(int variable, int i, int j) {
        if (!isVariable(variable) || !loop.isInside(i, j)) {
            return 0;
        }
        freshenRun();
        return runValues[variable * SQUARE + i * SIDE + j];
    }

    public int wrong() {
        freshenRun();
        return countWrong(runValues);
    }

    public int tick(int i, int j) {
        return loop.isInside(i, j) ? placement.tick[i * SIDE + j] : NONE;
    }

    public int cell(int i, int j) {
        return loop.isInside(i, j) ? placement.cell[i * SIDE + j] : NONE;
    }

    public int point(int cell, int tick) {
        for (int k = 0; k < loop.points(); k++) {
            int point = loop.pointAt(k);
            if (placement.cell[point] == cell && placement.tick[point] == tick) {
                return point;
            }
        }
        return NONE;
    }

    public int wave(int tick) {
        if (tick < 0) {
            return NONE;
        }
        return tick < placement.latency ? placement.wave[tick] : 0;
    }

    public int busy(int cell, int what) {
        if (!isCell(cell)) {
            return REFUSED;
        }
        switch (what) {
            case 0: return placement.pointsOf(cell);
            case 1: return placement.firstTickOf(cell);
            case 2: return placement.lastTickOf(cell);
            case 3: return current().isBroken(cell) ? 1 : 0;
            case 4: return wrongWithout(cell);
            default: return REFUSED;
        }
    }

    public int plan(int what) {
        Layout now = current();
        int clashes = loop.clashes(now.p, now.q, now.a, now.b);
        switch (what) {
            case 0: return loop.isLawful(now.p, now.q) ? 1 : 0;
            case 1: return placement.latency;
            case 2: return placement.cells;
            case 3: return clashes;
            case 4: return placement.latency * placement.cells - (loop.points() - clashes);
            case 5: return web.deepest + 1;
            case 6: return loop.points() - web.ordered;
            default: return NONE;
        }
    }

    public int offset(int offset, int what) {
        if (offset < 0 || offset >= loop.offsets) {
            return REFUSED;
        }
        Layout now = current();
        int a = loop.offsetA[offset];
        int b = loop.offsetB[offset];
        int readers = loop.shifted(a, b);
        int leadsBack = -(now.p * a + now.q * b);
        switch (what) {
            case 0: return a;
            case 1: return b;
            case 2: return readers;
            case 3: return now.b * a - now.a * b;
            case 4: return leadsBack;
            case 5: return leadsBack < 0 ? 0 : readers * leadsBack;
            default: return REFUSED;
        }
    }

    public int flow(int tick, int what) {
        if (tick < 0 || what < 0 || what > 1) {
            return NONE;
        }
        int all = 0;
        for (int k = 0; k < loop.points(); k++) {
            int point = loop.pointAt(k);
            if (placement.tick[point] != tick || placement.clash[point]) {
                continue;
            }
            if (what == 0) {
                all += loop.edgeReads(point);
            } else if (loop.readersOf(point) == 0) {
                all++;
            }
        }
        return all;
    }

    public int best(int r, int what) {
        if (r < 1 || r > FACTOR) {
            return REFUSED;
        }
        Layout now = current();
        search.clear();
        search.trySchedules(loop, r, now.a, now.b);
        switch (what) {
            case 0: return search.found;
            case 1: return search.ifFound(search.least);
            case 2: return search.ifFound(search.p);
            case 3: return search.ifFound(search.q);
            default: return REFUSED;
        }
    }

    public int line(int what) {
        Layout now = current();
        search.clear();
        search.tryLines(loop, now.p, now.q, 1);
        switch (what) {
            case 0: return search.found;
            case 1: return search.ifFound(search.least);
            case 2: return search.ifFound(search.a);
            case 3: return search.ifFound(search.b);
            default: return REFUSED;
        }
    }

    public int pair(int r, int what) {
        if (r < 1 || r > PAIR_FACTOR) {
            return REFUSED;
        }
        search.clear();
        search.tryPairs(loop, r);
        switch (what) {
            case 0: return search.ifFound(search.least);
            case 1: return search.ifFound(search.p);
            case 2: return search.ifFound(search.q);
            case 3: return search.ifFound(search.a);
            case 4: return search.ifFound(search.b);
            default: return REFUSED;
        }
    }

    public int beats(int n, boolean turn) {
        if (n < 1 || n > WORKERS) {
            return NONE;
        }
        return placement.beatsBy(n, turn);
    }

    public int fewest(int beats, boolean turn) {
        for (int n = 1; n <= WORKERS; n++) {
            if (placement.beatsBy(n, turn) <= beats) {
                return n;
            }
        }
        return NONE;
    }

    public int height(int i, int j) {
        return loop.isInside(i, j) ? web.height[i * SIDE + j] : NONE;
    }

    public int critical() {
        return web.onLongestRow();
    }

    public int wrongAt(int i) {
        freshenRun();
        int ahead = 0;
        for (int k = 0; k < loop.points(); k++) {
            int point = loop.pointAt(k);
            if (!isWrong(point, runValues)) {
                continue;
            }
            if (ahead == i) {
                return point;
            }
            ahead++;
        }
        return NONE;
    }

    public int peak(int what) {
        switch (what) {
            case 0: return placement.fullestTick();
            case 1: return placement.wave[placement.fullestTick()];
            case 2: return placement.emptyTicks();
            default: return NONE;
        }
    }

    public int tiles(int r, int c, int what) {
        if (r < 1 || r > SIDE || c < 1 || c > SIDE) {
            return NONE;
        }
        tiles.cut(loop, r, c);
        switch (what) {
            case 0: return tiles.count;
            case 1: return tiles.crossings;
            case 2: return tiles.longestRow(loop) > 0 ? 1 : 0;
            case 3: return tiles.longestRow(loop);
            default: return NONE;
        }
    }

    public int tiling(int most, int what) {
        if (most < 1 || most > SQUARE || !tiles.choose(loop, most)) {
            return NONE;
        }
        switch (what) {
            case 0: return tiles.bestRows;
            case 1: return tiles.bestColumns;
            case 2: return tiles.bestCrossings;
            default: return NONE;
        }
    }

    public int near(int i, int j, int what) {
        if (!loop.isInside(i, j)) {
            return NONE;
        }
        switch (what) {
            case 0: return loop.readBy(i * SIDE + j);
            case 1: return loop.readersOf(i * SIDE + j);
            default: return NONE;
        }
    }

    public int idle(int cell) {
        return isCell(cell) ? placement.longestPause(cell) : NONE;
    }

    public int hangs(int i, int j) {
        return loop.isInside(i, j) ? web.followers(loop, i * SIDE + j) : NONE;
    }

    public int stirs(int variable, int i, int j) {
        if (!canStir(variable, i, j)) {
            return NONE;
        }
        reckonValues(otherValues, variable, i * SIDE + j);
        return countWrong(otherValues);
    }

    public int stirred(int variable, int i, int j) {
        if (!canStir(variable, i, j)) {
            return 0;
        }
        reckonValues(otherValues, variable, i * SIDE + j);
        // One that is not ordered is left 0 there, as is due.
        return otherValues[variable * SQUARE + loop.pointAt(loop.points() - 1)];
    }

    public int total(int variable, int what) {
        int first = isVariable(variable) ? firstGreatest(variable) : NONE;
        if (first == NONE) {
            return what == 3 ? NONE : 0;
        }
        switch (what) {
            case 0: return sumOf(variable);
            case 1: return values[variable * SQUARE + first];
            case 2: return leastOf(variable);
            case 3: return first;
            default: return 0;
        }
    }

    public int law() {
        Layout now = current();
        boolean sound = loop.isLawful(now.p, now.q) && now.broken == 0L
                && loop.clashes(now.p, now.q, now.a, now.b) == 0;
        if (!sound) {
            return 0;
        }
        freshenRun();
        return countWrong(runValues) + loop.points() - web.ordered;
    }

    public int image(int box) {
        if (!isBox(box)) {
            return NONE;
        }
        boxes[box].copy(current());
        boxFull[box] = true;
        return placement.latency;
    }

    public int back(int box) {
        if (!isBox(box) || !boxFull[box]) {
            return NONE;
        }
        history.restart().copy(boxes[box]);
        settle();
        return placement.latency;
    }

    public int about(int what) {
        Layout now = current();
        switch (what) {
            case 0: return loop.rows;
            case 1: return loop.columns;
            case 2: return loop.variables;
            case 3: return loop.offsets;
            case 4: return loop.reads;
            case 5: return now.p;
            case 6: return now.q;
            case 7: return now.a;
            case 8: return now.b;
            case 9: return now.workers;
            case 10: return Long.bitCount(now.broken);
            case 11: return loop.units;
            case 12: return history.at;
            case 13: return history.top - history.at;
            case 14: return tape.length;
            default: return REFUSED;
        }
    }

    private static boolean isWithin(int number, int most) {
        return number >= -most && number <= most;
    }

    private static boolean isLine(int a, int b) {
        return isWithin(a, STEP) && isWithin(b, STEP) && divisor(Math.abs(a), Math.abs(b)) == 1;
    }

    private static int divisor(int a, int b) {
        int greater = a;
        int lesser = b;
        for (int k = 0; k < 2 * STEP && lesser != 0; k++) {
            int rest = greater % lesser;
            greater = lesser;
            lesser = rest;
        }
        return greater;
    }

    private static boolean isBox(int box) {
        return box >= 0 && box < BOXES;
    }

    private boolean isVariable(int variable) {
        return variable >= 0 && variable < loop.variables;
    }

    private boolean isCell(int cell) {
        return cell >= 0 && cell < placement.cells;
    }

    private Layout current() {
        return history.kept[history.at];
    }

    private void takeUp() {
        history.restart().copy(loop.told);
        for (int k = 0; k < BOXES; k++) {
            boxFull[k] = false;
        }
        web.weave(loop);
        reckonValues(values, NONE, NONE);
        settle();
    }

    private void settle() {
        placement.place(loop, current());
        runIsFresh = false;
    }

    // Read by depth, what a point reads is always there already: values are a run without haste.
    private void reckonValues(int[] into, int stirVariable, int stirPoint) {
        reckoner.begin(loop, web.depth, into);
        reckoner.stir(stirVariable, stirPoint);
        for (int k = 0; k < web.ordered; k++) {
            reckoner.reckon(web.order[k]);
        }
    }

    private void freshenRun() {
        if (!runIsFresh) {
            reckonRun(runValues, current().broken);
            runIsFresh = true;
        }
    }

    private void reckonRun(int[] into, long broken) {
        reckoner.begin(loop, placement.tick, into);
        for (int k = 0; k < loop.points(); k++) {
            int point = placement.order[k];
            boolean isBroken = (broken >>> placement.cell[point] & 1L) != 0L;
            if (!placement.clash[point] && !isBroken) {
                reckoner.reckon(point);
            }
        }
    }

    private int wrongWithout(int cell) {
        freshenRun();
        reckonRun(otherValues, current().broken | 1L << cell);
        return countWrong(otherValues) - countWrong(runValues);
    }

    private boolean isWrong(int point, int[] others) {
        if (!web.isOrdered(point)) {
            return false;
        }
        for (int k = 0; k < loop.variables; k++) {
            if (values[k * SQUARE + point] != others[k * SQUARE + point]) {
                return true;
            }
        }
        return false;
    }

    private int countWrong(int[] others) {
        int all = 0;
        for (int k = 0; k < loop.points(); k++) {
            if (isWrong(loop.pointAt(k), others)) {
                all++;
            }
        }
        return all;
    }

    private boolean canStir(int variable, int i, int j) {
        return isVariable(variable) && loop.isInside(i, j) && web.isOrdered(i * SIDE + j);
    }

    private int firstGreatest(int variable) {
        int first = NONE;
        for (int k = 0; k < loop.points(); k++) {
            int point = loop.pointAt(k);
            if (web.isOrdered(point) && (first == NONE
                    || values[variable * SQUARE + point] > values[variable * SQUARE + first])) {
                first = point;
            }
        }
        return first;
    }

    private int leastOf(int variable) {
        int least = Integer.MAX_VALUE;
        for (int k = 0; k < web.ordered; k++) {
            least = Math.min(least, values[variable * SQUARE + web.order[k]]);
        }
        return least;
    }

    private int sumOf(int variable) {
        int sum = 0;
        for (int k = 0; k < web.ordered; k++) {
            sum += values[variable * SQUARE + web.order[k]];
        }
        return sum;
    }

    /** The bytes that were fed and are no loop yet, and the token of them that is at hand. */
    private static final class Tape {
        static final int MOST = 800;
        // The kinds of tokens; a sign's kind is its own byte.
        static final int END = 0;
        static final int BAD = 1;
        static final int BLANK = 2;
        static final int WORD = 3;
        static final int NUMBER = 4;
        // Beyond any number that can be, yet far from where an int wraps.
        private static final int HUGE = 100000;

        final byte[] bytes = new byte[MOST];
        int length;
        int kind;
        int place;
        int behind;
        int number;

        void put(int four) {
            for (int shift = 24; shift >= 0 && length < MOST; shift -= 8) {
                bytes[length] = (byte) (four >>> shift);
                length++;
            }
        }

        void rewind() {
            behind = 0;
            step();
        }

        void step() {
            while (behind < length && kindOf(bytes[behind]) == BLANK) {
                behind++;
            }
            place = behind;
            if (behind >= length) {
                kind = END;
                return;
            }
            kind = kindOf(bytes[behind]);
            boolean isLong = kind == WORD || kind == NUMBER;
            behind++;
            while (isLong && behind < length && kindOf(bytes[behind]) == kind) {
                behind++;
            }
            number = kind == NUMBER ? digits() : 0;
        }

        private static int kindOf(int sign) {
            if (sign >= 'a' && sign <= 'z') {
                return WORD;
            }
            if (sign >= '0' && sign <= '9') {
                return NUMBER;
            }
            switch (sign) {
                case 32: case 10: return BLANK;
                case ';': case '=': case '(': case ')': case ',': return sign;
                case '+': case '-': case '*': case '<': case '>': return sign;
                default: return BAD;
            }
        }

        private int digits() {
            int all = 0;
            for (int k = place; k < behind; k++) {
                all = all < HUGE ? all * 10 + bytes[k] - '0' : HUGE;
            }
            return all;
        }

        boolean isWord(String word) {
            if (kind != WORD || behind - place != word.length()) {
                return false;
            }
            for (int k = 0; k < word.length(); k++) {
                if (bytes[place + k] != word.charAt(k)) {
                    return false;
                }
            }
            return true;
        }

        boolean isName() {
            return kind == WORD && !isWord("size") && !isWord("let") && !isWord("fire") && !isWord("onto")
                    && !isWord("edge") && !isWord("i") && !isWord("j");
        }

        boolean isSameAs(int from, int to) {
            if (to - from != behind - place) {
                return false;
            }
            for (int k = 0; k < to - from; k++) {
                if (bytes[from + k] != bytes[place + k]) {
                    return false;
                }
            }
            return true;
        }
    }

    /** Reads the tape into a loop, or tells the first fault. */
    private static final class Parser {
        private static final int STRAY = 1;
        private static final int BAD_NUMBER = 2;
        private static final int BAD_NAME = 3;
        private static final int TOO_MANY = 4;
        private static final int UNITS = 40;
        private static final int WITHIN = 4;
        private static final int GREATEST = 999;
        private static final int LEVELS = 3;

        final Tape tape;
        final int[] nameFrom = new int[VARIABLES];
        final int[] nameTo = new int[VARIABLES];
        Loop loop;
        int fault;
        int place = NONE;
        boolean isFired;
        boolean isLaid;
        boolean isInEdge;
        int number;
        int numberPlace;

        Parser(Tape tape, Loop loop) {
            this.tape = tape;
            this.loop = loop;
        }

        void parse(Loop target) {
            loop = target;
            loop.clear();
            fault = 0;
            place = NONE;
            isFired = false;
            isLaid = false;
            isInEdge = false;
            tape.rewind();
            boolean fine = tape.kind == Tape.END || sizeLine();
            for (int k = 0; k < Tape.MOST && fine && tape.kind != Tape.END; k++) {
                fine = tape.isWord("let") ? letLine() : layoutLine();
            }
        }

        private boolean refuse(int why, int where) {
            fault = why;
            place = where;
            return false;
        }

        private boolean pass(int sign) {
            if (tape.kind != sign) {
                return refuse(STRAY, tape.place);
            }
            tape.step();
            return true;
        }

        private boolean sizeLine() {
            if (!tape.isWord("size")) {
                return refuse(STRAY, tape.place);
            }
            tape.step();
            if (!passNumber(1, SIDE)) {
                return false;
            }
            loop.rows = number;
            if (!passNumber(1, SIDE)) {
                return false;
            }
            loop.columns = number;
            return pass(';');
        }

        private boolean layoutLine() {
            if (tape.isWord("fire") && !isFired) {
                return fireLine();
            }
            if (tape.isWord("onto") && !isLaid) {
                return ontoLine();
            }
            return refuse(STRAY, tape.place);
        }

        private boolean fireLine() {
            isFired = true;
            tape.step();
            if (!passNumber(-FACTOR, FACTOR)) {
                return false;
            }
            loop.told.p = number;
            if (!passNumber(-FACTOR, FACTOR)) {
                return false;
            }
            loop.told.q = number;
            return pass(';');
        }

        private boolean ontoLine() {
            isLaid = true;
            tape.step();
            if (!passNumber(-STEP, STEP)) {
                return false;
            }
            loop.told.a = number;
            if (!passNumber(-STEP, STEP)) {
                return false;
            }
            loop.told.b = number;
            if (!isLine(loop.told.a, loop.told.b)) {
                return refuse(BAD_NUMBER, numberPlace);
            }
            return pass(';');
        }

        // A number's place is that of its digits: a minus ahead of them is a token of its own.
        private boolean passNumber(int least, int most) {
            boolean isBelow = least < 0 && tape.kind == '-';
            if (isBelow) {
                tape.step();
            }
            if (tape.kind != Tape.NUMBER) {
                return refuse(STRAY, tape.place);
            }
            number = isBelow ? -tape.number : tape.number;
            numberPlace = tape.place;
            if (number < least || number > most) {
                return refuse(BAD_NUMBER, numberPlace);
            }
            tape.step();
            return true;
        }

        private boolean letLine() {
            if (loop.variables >= VARIABLES) {
                return refuse(TOO_MANY, tape.place);
            }
            tape.step();
            if (!tape.isName()) {
                return refuse(STRAY, tape.place);
            }
            if (named() != NONE) {
                return refuse(BAD_NAME, tape.place);
            }
            nameFrom[loop.variables] = tape.place;
            nameTo[loop.variables] = tape.behind;
            loop.variables++;
            tape.step();
            if (!pass('=') || chain(0, 0) == NONE) {
                return false;
            }
            loop.closeFormula();
            isInEdge = tape.isWord("edge");
            if (isInEdge) {
                tape.step();
                if (chain(0, 0) == NONE) {
                    return false;
                }
            }
            loop.closeFormula();
            isInEdge = false;
            return pass(';');
        }

        private int named() {
            for (int k = 0; k < loop.variables; k++) {
                if (tape.isSameAs(nameFrom[k], nameTo[k])) {
                    return k;
                }
            }
            return NONE;
        }

        // Level 0 joins by lesser and greater, 1 by sums, 2 by products; below these is a unit.
        // A unit is refused that lies too deep within others, which keeps this from going deeper.
        private int chain(int level, int within) {
            if (level >= LEVELS) {
                return unit(within);
            }
            int left = chain(level + 1, within);
            for (int k = 0; k < UNITS && left != NONE; k++) {
                int kind = joinAt(level);
                if (kind == NONE) {
                    return left;
                }
                tape.step();
                int right = chain(level + 1, within);
                left = right == NONE ? NONE : loop.addNode(kind, left, right);
            }
            return left;
        }

        private int joinAt(int level) {
            switch (tape.kind) {
                case '<': return level == 0 ? Loop.LESSER : NONE;
                case '>': return level == 0 ? Loop.GREATER : NONE;
                case '+': return level == 1 ? Loop.PLUS : NONE;
                case '-': return level == 1 ? Loop.LESS : NONE;
                case '*': return level == 2 ? Loop.TIMES : NONE;
                default: return NONE;
            }
        }

        private int unit(int within) {
            int why = unitFault(within);
            if (why != 0) {
                refuse(why, tape.place);
                return NONE;
            }
            loop.units++;
            switch (tape.kind) {
                case Tape.NUMBER: return leaf(Loop.NUMBER, tape.number);
                case '(': return bracket(within);
                case '-': return negated(within);
                default: break;
            }
            if (tape.isWord("i")) {
                return leaf(Loop.ROW, 0);
            }
            return tape.isWord("j") ? leaf(Loop.COLUMN, 0) : readUnit();
        }

        // Of the faults at one place the least is due, so they are looked for by number.
        private int unitFault(int within) {
            boolean isRead = tape.isName();
            boolean isPlain = tape.kind == Tape.NUMBER || tape.kind == '(' || tape.kind == '-'
                    || tape.isWord("i") || tape.isWord("j");
            if (!isRead && !isPlain) {
                return STRAY;
            }
            if (tape.kind == Tape.NUMBER && tape.number > GREATEST) {
                return BAD_NUMBER;
            }
            if (isRead && (isInEdge || named() == NONE)) {
                return BAD_NAME;
            }
            boolean isOver = loop.units >= UNITS || within > WITHIN || isRead && loop.reads >= Loop.READS;
            return isOver ? TOO_MANY : 0;
        }

        private int leaf(int kind, int content) {
            tape.step();
            return loop.addNode(kind, content, 0);
        }

        private int bracket(int within) {
            tape.step();
            int inner = chain(0, within + 1);
            return inner != NONE && pass(')') ? inner : NONE;
        }

        private int negated(int within) {
            tape.step();
            int inner = unit(within + 1);
            return inner == NONE ? NONE : loop.addNode(Loop.NEGATED, inner, 0);
        }

        private int readUnit() {
            int variable = named();
            tape.step();
            if (!pass('(') || !passNumber(-STEP, STEP)) {
                return NONE;
            }
            int a = number;
            if (!pass(',') || !passNumber(-STEP, STEP)) {
                return NONE;
            }
            int b = number;
            if (a == 0 && b == 0 && variable == loop.variables - 1) {
                refuse(BAD_NUMBER, numberPlace);
                return NONE;
            }
            return pass(')') ? loop.addRead(variable, a, b) : NONE;
        }
    }

    /** What a text tells: its size, its formulas as nodes, its reads and their offsets. */
    private static final class Loop {
        static final int NUMBER = 0;
        static final int ROW = 1;
        static final int COLUMN = 2;
        static final int READ = 3;
        static final int NEGATED = 4;
        static final int LESSER = 5;
        static final int GREATER = 6;
        static final int PLUS = 7;
        static final int LESS = 8;
        static final int TIMES = 9;
        static final int READS = 12;
        // Forty units are joined by fewer than forty signs.
        static final int NODES = 80;

        int rows;
        int columns;
        int variables;
        int units;
        int reads;
        int offsets;
        int nodes;
        int formulas;
        // Schedule and line, with one worker and no cell broken.
        final Layout told = new Layout();
        final int[] offsetA = new int[READS];
        final int[] offsetB = new int[READS];
        final int[] readVariable = new int[READS];
        final int[] readA = new int[READS];
        final int[] readB = new int[READS];
        final int[] kind = new int[NODES];
        final int[] left = new int[NODES];
        final int[] right = new int[NODES];
        // The formula of variable v is number 2 v, that of its edge 2 v + 1 (one not told has no nodes):
        // its nodes end where those of the next begin.
        final int[] start = new int[2 * VARIABLES + 1];

        Loop() {
            clear();
        }

        void clear() {
            rows = 1;
            columns = 1;
            variables = 0;
            units = 0;
            reads = 0;
            offsets = 0;
            nodes = 0;
            formulas = 0;
            told.p = 1;
            told.q = 1;
            told.a = 1;
            told.b = 0;
            told.workers = 1;
            told.broken = 0L;
        }

        void closeFormula() {
            if (formulas < 2 * VARIABLES) {
                formulas++;
                start[formulas] = nodes;
            }
        }

        int addNode(int what, int first, int second) {
            if (nodes >= NODES) {
                return NONE;
            }
            kind[nodes] = what;
            left[nodes] = first;
            right[nodes] = second;
            nodes++;
            return nodes - 1;
        }

        int addRead(int variable, int stepA, int stepB) {
            if (reads >= READS) {
                return NONE;
            }
            readVariable[reads] = variable;
            readA[reads] = stepA;
            readB[reads] = stepB;
            reads++;
            noteOffset(stepA, stepB);
            return addNode(READ, reads - 1, 0);
        }

        private void noteOffset(int stepA, int stepB) {
            boolean isKnown = stepA == 0 && stepB == 0;
            for (int k = 0; k < offsets; k++) {
                isKnown |= offsetA[k] == stepA && offsetB[k] == stepB;
            }
            if (!isKnown && offsets < READS) {
                offsetA[offsets] = stepA;
                offsetB[offsets] = stepB;
                offsets++;
            }
        }

        boolean isInside(int i, int j) {
            return i >= 0 && i < rows && j >= 0 && j < columns;
        }

        int points() {
            return rows * columns;
        }

        int pointAt(int index) {
            return index / columns * SIDE + index % columns;
        }

        /** The point that this one reads by an offset, or none. */
        int target(int point, int offset) {
            return moved(point, offsetA[offset], offsetB[offset]);
        }

        /** The point that reads this one by an offset, or none. */
        int reader(int point, int offset) {
            return moved(point, -offsetA[offset], -offsetB[offset]);
        }

        int moved(int point, int stepA, int stepB) {
            int i = point / SIDE + stepA;
            int j = point % SIDE + stepB;
            boolean isPoint = i >= 0 && i < rows && j >= 0 && j < columns;
            return isPoint ? i * SIDE + j : NONE;
        }

        int readBy(int point) {
            int all = 0;
            for (int k = 0; k < offsets; k++) {
                if (target(point, k) != NONE) {
                    all++;
                }
            }
            return all;
        }

        int readersOf(int point) {
            int all = 0;
            for (int k = 0; k < offsets; k++) {
                if (reader(point, k) != NONE) {
                    all++;
                }
            }
            return all;
        }

        int edgeReads(int point) {
            int all = 0;
            for (int k = 0; k < reads; k++) {
                if (moved(point, readA[k], readB[k]) == NONE) {
                    all++;
                }
            }
            return all;
        }

        boolean isLawful(int byRow, int byColumn) {
            for (int k = 0; k < offsets; k++) {
                if (byRow * offsetA[k] + byColumn * offsetB[k] >= 0) {
                    return false;
                }
            }
            return true;
        }

        /** How many points have another one so many steps away. */
        int shifted(int stepA, int stepB) {
            return Math.max(0, rows - Math.abs(stepA)) * Math.max(0, columns - Math.abs(stepB));
        }

        int latency(int byRow, int byColumn) {
            return Math.abs(byRow) * (rows - 1) + Math.abs(byColumn) * (columns - 1) + 1;
        }

        // A line's two factors have no common divisor, so the points of a cell lie just one line's step apart:
        // there is a cell for each point that has none a step ahead.
        int cells(int lineA, int lineB) {
            return points() - shifted(lineA, lineB);
        }

        // Points of a cell are whole steps of the line apart; they share a tick only if a step takes no tick.
        int clashes(int byRow, int byColumn, int lineA, int lineB) {
            return byRow * lineA + byColumn * lineB == 0 ? shifted(lineA, lineB) : 0;
        }
    }

    /** What can be acted on: schedule, line, workers, broken cells (a bit each; there are fewer than 64). */
    private static final class Layout {
        int p;
        int q;
        int a;
        int b;
        int workers;
        long broken;

        void copy(Layout other) {
            p = other.p;
            q = other.q;
            a = other.a;
            b = other.b;
            workers = other.workers;
            broken = other.broken;
        }

        boolean isBroken(int cell) {
            return (broken >>> cell & 1L) != 0L;
        }
    }

    /** The layouts between acts: the one at hand, those that undo leads to ahead of it, those of redo behind. */
    private static final class History {
        private static final int MOST = 20;

        final Layout[] kept = new Layout[MOST + 1];
        int at;
        int top;

        History() {
            for (int k = 0; k <= MOST; k++) {
                kept[k] = new Layout();
            }
        }

        Layout restart() {
            at = 0;
            top = 0;
            return kept[0];
        }

        /** A layout like the one at hand, which is that at hand now, for an act to change. */
        Layout open() {
            if (at >= MOST) {
                dropOldest();
            } else {
                at++;
            }
            top = at;
            kept[at].copy(kept[at - 1]);
            return kept[at];
        }

        private void dropOldest() {
            Layout oldest = kept[0];
            for (int k = 0; k < MOST; k++) {
                kept[k] = kept[k + 1];
            }
            kept[MOST] = oldest;
        }

        boolean stepBack() {
            if (at <= 0) {
                return false;
            }
            at--;
            return true;
        }

        boolean stepOn() {
            if (at >= top) {
                return false;
            }
            at++;
            return true;
        }
    }

    /** Which point hangs on which, without regard to any schedule. */
    private static final class Web {
        final int[] depth = new int[SQUARE];
        final int[] height = new int[SQUARE];
        // The points that are ordered, each behind all those that it hangs on.
        final int[] order = new int[SQUARE];
        final int[] waits = new int[SQUARE];
        final int[] seen = new int[SQUARE];
        final int[] queue = new int[SQUARE];
        int ordered;
        int deepest;

        void weave(Loop loop) {
            Arrays.fill(depth, NONE);
            Arrays.fill(height, NONE);
            ordered = 0;
            deepest = NONE;
            for (int k = 0; k < loop.points(); k++) {
                int point = loop.pointAt(k);
                waits[point] = loop.readBy(point);
                if (waits[point] == 0) {
                    putInOrder(point);
                }
            }
            for (int k = 0; k < SQUARE && k < ordered; k++) {
                deepen(loop, order[k]);
            }
            for (int k = ordered - 1; k >= 0; k--) {
                height[order[k]] = heightOver(loop, order[k]);
            }
        }

        private void putInOrder(int point) {
            if (ordered < SQUARE) {
                order[ordered] = point;
                ordered++;
            }
        }

        private void deepen(Loop loop, int point) {
            int greatest = NONE;
            for (int k = 0; k < loop.offsets; k++) {
                int below = loop.target(point, k);
                if (below != NONE) {
                    greatest = Math.max(greatest, depth[below]);
                }
                int above = loop.reader(point, k);
                if (above != NONE) {
                    waits[above]--;
                    if (waits[above] == 0) {
                        putInOrder(above);
                    }
                }
            }
            depth[point] = greatest + 1;
            deepest = Math.max(deepest, depth[point]);
        }

        // A reader that is not ordered has no height, nor has then what it reads.
        private int heightOver(Loop loop, int point) {
            int greatest = NONE;
            for (int k = 0; k < loop.offsets; k++) {
                int above = loop.reader(point, k);
                if (above != NONE) {
                    if (height[above] == NONE) {
                        return NONE;
                    }
                    greatest = Math.max(greatest, height[above]);
                }
            }
            return greatest + 1;
        }

        boolean isOrdered(int point) {
            return depth[point] != NONE;
        }

        int onLongestRow() {
            int all = 0;
            for (int k = 0; k < ordered; k++) {
                int point = order[k];
                if (height[point] != NONE && depth[point] + height[point] == deepest) {
                    all++;
                }
            }
            return all;
        }

        int followers(Loop loop, int point) {
            Arrays.fill(seen, 0);
            int known = follow(loop, point, 0);
            for (int k = 0; k < SQUARE && k < known; k++) {
                known = follow(loop, queue[k], known);
            }
            return known;
        }

        private int follow(Loop loop, int point, int known) {
            int all = known;
            for (int k = 0; k < loop.offsets; k++) {
                int above = loop.reader(point, k);
                if (above != NONE && seen[above] == 0 && all < SQUARE) {
                    seen[above] = 1;
                    queue[all] = above;
                    all++;
                }
            }
            return all;
        }
    }

    /** Ticks and cells of all points by a layout. */
    private static final class Placement {
        private static final int TICKS = 2 * FACTOR * (SIDE - 1) + 1;
        private static final int KEYS = 2 * STEP * (SIDE - 1) + 1;

        final int[] tick = new int[SQUARE];
        final int[] cell = new int[SQUARE];
        final boolean[] clash = new boolean[SQUARE];
        // All points, by tick, then i, then j.
        final int[] order = new int[SQUARE];
        final int[] wave = new int[TICKS];
        final int[] slot = new int[TICKS];
        final int[] cellOfKey = new int[KEYS];
        final int[] load = new int[WORKERS];
        int points;
        int latency;
        int cells;
        // By how many ticks points of one cell, a step of the line apart, are apart.
        int stride;

        void place(Loop loop, Layout layout) {
            points = loop.points();
            latency = loop.latency(layout.p, layout.q);
            stride = Math.abs(layout.p * layout.a + layout.q * layout.b);
            setTicks(loop, layout);
            sortByTick(loop);
            setCells(loop, layout);
            setClashes(loop, layout);
        }

        private void setTicks(Loop loop, Layout layout) {
            int least = Math.min(0, layout.p * (loop.rows - 1)) + Math.min(0, layout.q * (loop.columns - 1));
            Arrays.fill(wave, 0);
            for (int k = 0; k < points; k++) {
                int point = loop.pointAt(k);
                tick[point] = layout.p * (point / SIDE) + layout.q * (point % SIDE) - least;
                wave[tick[point]]++;
            }
        }

        private void sortByTick(Loop loop) {
            int ahead = 0;
            for (int k = 0; k < latency; k++) {
                slot[k] = ahead;
                ahead += wave[k];
            }
            for (int k = 0; k < points; k++) {
                int point = loop.pointAt(k);
                order[slot[tick[point]]] = point;
                slot[tick[point]]++;
            }
        }

        private void setCells(Loop loop, Layout layout) {
            int least = Math.min(0, layout.b * (loop.rows - 1)) + Math.min(0, -layout.a * (loop.columns - 1));
            Arrays.fill(cellOfKey, NONE);
            for (int k = 0; k < points; k++) {
                int point = loop.pointAt(k);
                cell[point] = layout.b * (point / SIDE) - layout.a * (point % SIDE) - least;
                cellOfKey[cell[point]] = 0;
            }
            cells = 0;
            for (int k = 0; k < KEYS; k++) {
                if (cellOfKey[k] != NONE) {
                    cellOfKey[k] = cells;
                    cells++;
                }
            }
            for (int k = 0; k < points; k++) {
                int point = loop.pointAt(k);
                cell[point] = cellOfKey[cell[point]];
            }
        }

        private void setClashes(Loop loop, Layout layout) {
            boolean leadsOn = layout.a > 0 || layout.a == 0 && layout.b > 0;
            int stepA = leadsOn ? -layout.a : layout.a;
            int stepB = leadsOn ? -layout.b : layout.b;
            for (int k = 0; k < points; k++) {
                int point = loop.pointAt(k);
                clash[point] = stride == 0 && loop.moved(point, stepA, stepB) != NONE;
            }
        }

        int pointsOf(int which) {
            int all = 0;
            for (int k = 0; k < points; k++) {
                if (cell[order[k]] == which) {
                    all++;
                }
            }
            return all;
        }

        int firstTickOf(int which) {
            for (int k = 0; k < points; k++) {
                if (cell[order[k]] == which) {
                    return tick[order[k]];
                }
            }
            return NONE;
        }

        int lastTickOf(int which) {
            for (int k = points - 1; k >= 0; k--) {
                if (cell[order[k]] == which) {
                    return tick[order[k]];
                }
            }
            return NONE;
        }

        int longestPause(int which) {
            return pointsOf(which) > 1 && stride > 0 ? stride - 1 : 0;
        }

        int fullestTick() {
            int fullest = 0;
            for (int k = 1; k < latency; k++) {
                if (wave[k] > wave[fullest]) {
                    fullest = k;
                }
            }
            return fullest;
        }

        int emptyTicks() {
            int all = 0;
            for (int k = 0; k < latency; k++) {
                if (wave[k] == 0) {
                    all++;
                }
            }
            return all;
        }

        int beatsBy(int count, boolean turn) {
            int inBlock = (cells + count - 1) / count;
            int all = 0;
            int most = 0;
            for (int k = 0; k < points; k++) {
                int point = order[k];
                if (k == 0 || tick[point] != tick[order[k - 1]]) {
                    all += most;
                    most = 0;
                    Arrays.fill(load, 0);
                }
                int worker = turn ? cell[point] % count : cell[point] / inBlock;
                load[worker]++;
                most = Math.max(most, load[worker]);
            }
            return all + most;
        }
    }

    /** Reckons points, one behind another, from those that were reckoned ahead. */
    private static final class Reckoner {
        final int[] results = new int[Loop.NODES];
        Loop loop;
        int[] when;
        int[] made;
        int stirVariable;
        int stirPoint;

        Reckoner(Loop loop, int[] when, int[] made) {
            this.loop = loop;
            this.when = when;
            this.made = made;
        }

        /** All is 0 till it is reckoned; a point reads those alone whose time is ahead of its own. */
        void begin(Loop theLoop, int[] times, int[] into) {
            loop = theLoop;
            when = times;
            made = into;
            Arrays.fill(made, 0);
            stir(NONE, NONE);
        }

        void stir(int variable, int point) {
            stirVariable = variable;
            stirPoint = point;
        }

        void reckon(int point) {
            for (int variable = 0; variable < loop.variables; variable++) {
                int last = 0;
                for (int k = loop.start[2 * variable]; k < loop.start[2 * variable + 1]; k++) {
                    last = loop.kind[k] == Loop.READ ? fetch(loop.left[k], point) : join(k, point / SIDE, point % SIDE);
                    results[k] = last;
                }
                int more = variable == stirVariable && point == stirPoint ? 1 : 0;
                made[variable * SQUARE + point] = last + more;
            }
        }

        private int fetch(int read, int point) {
            int variable = loop.readVariable[read];
            int there = loop.moved(point, loop.readA[read], loop.readB[read]);
            if (there == NONE) {
                return edgeAt(variable, point / SIDE + loop.readA[read], point % SIDE + loop.readB[read]);
            }
            boolean isThere = there == point || when[there] < when[point];
            return isThere ? made[variable * SQUARE + there] : 0;
        }

        private int edgeAt(int variable, int i, int j) {
            int last = 0;
            for (int k = loop.start[2 * variable + 1]; k < loop.start[2 * variable + 2]; k++) {
                last = join(k, i, j);
                results[k] = last;
            }
            return last;
        }

        private int join(int node, int i, int j) {
            int left = loop.left[node];
            int right = loop.right[node];
            switch (loop.kind[node]) {
                case Loop.NUMBER: return left;
                case Loop.ROW: return i;
                case Loop.COLUMN: return j;
                case Loop.NEGATED: return -results[left];
                case Loop.LESSER: return results[left] < results[right] ? results[left] : results[right];
                case Loop.GREATER: return results[left] > results[right] ? results[left] : results[right];
                case Loop.PLUS: return results[left] + results[right];
                case Loop.LESS: return results[left] - results[right];
                case Loop.TIMES: return results[left] * results[right];
                default: return 0;
            }
        }
    }

    /** Looks for the schedules and lines that cost least, the first of those. */
    private static final class Search {
        int found;
        int least;
        int p;
        int q;
        int a;
        int b;

        void clear() {
            found = 0;
        }

        int ifFound(int answer) {
            return found > 0 ? answer : REFUSED;
        }

        void trySchedules(Loop loop, int most, int lineA, int lineB) {
            for (int byRow = -most; byRow <= most; byRow++) {
                for (int byColumn = -most; byColumn <= most; byColumn++) {
                    if (loop.isLawful(byRow, byColumn) && loop.clashes(byRow, byColumn, lineA, lineB) == 0
                            && isBetter(loop.latency(byRow, byColumn))) {
                        keep(byRow, byColumn, lineA, lineB);
                    }
                }
            }
        }

        /** What lines cost is their cells, each so many times. */
        void tryLines(Loop loop, int byRow, int byColumn, int times) {
            for (int lineA = -STEP; lineA <= STEP; lineA++) {
                for (int lineB = -STEP; lineB <= STEP; lineB++) {
                    if (isLine(lineA, lineB) && loop.clashes(byRow, byColumn, lineA, lineB) == 0
                            && isBetter(times * loop.cells(lineA, lineB))) {
                        keep(byRow, byColumn, lineA, lineB);
                    }
                }
            }
        }

        void tryPairs(Loop loop, int most) {
            for (int byRow = -most; byRow <= most; byRow++) {
                for (int byColumn = -most; byColumn <= most; byColumn++) {
                    if (loop.isLawful(byRow, byColumn)) {
                        tryLines(loop, byRow, byColumn, loop.latency(byRow, byColumn));
                    }
                }
            }
        }

        private boolean isBetter(int cost) {
            found++;
            if (found > 1 && cost >= least) {
                return false;
            }
            least = cost;
            return true;
        }

        private void keep(int byRow, int byColumn, int lineA, int lineB) {
            p = byRow;
            q = byColumn;
            a = lineA;
            b = lineB;
        }
    }

    /** The points cut into tiles, and which tile hangs on which. */
    private static final class Tiles {
        final int[] waits = new int[SQUARE];
        final int[] rank = new int[SQUARE];
        final int[] queue = new int[SQUARE];
        int high = 1;
        int wide = 1;
        int across = 1;
        int count;
        int crossings;
        int queued;
        int bestRows;
        int bestColumns;
        int bestCrossings;

        void cut(Loop loop, int r, int c) {
            high = Math.max(1, r);
            wide = Math.max(1, c);
            across = (loop.columns + wide - 1) / wide;
            count = (loop.rows + high - 1) / high * across;
            crossings = 0;
            for (int k = 0; k < loop.offsets; k++) {
                int a = loop.offsetA[k];
                int b = loop.offsetB[k];
                crossings += loop.shifted(a, b) - together(loop.rows, a, high) * together(loop.columns, b, wide);
            }
        }

        /** Of so many places in a row, how many have the one a step away within their own piece of the row. */
        private static int together(int places, int step, int piece) {
            int all = 0;
            for (int k = Math.max(0, -step); k < Math.min(places, places - step); k++) {
                if (k / piece == (k + step) / piece) {
                    all++;
                }
            }
            return all;
        }

        /** How many tiles are on the longest row; 0 if they can't be done one whole behind another. */
        int longestRow(Loop loop) {
            countWaits(loop);
            queued = 0;
            for (int k = 0; k < count; k++) {
                rank[k] = 1;
                if (waits[k] == 0) {
                    enqueue(k);
                }
            }
            int longest = 0;
            for (int k = 0; k < SQUARE && k < queued; k++) {
                longest = Math.max(longest, rank[queue[k]]);
                release(loop, queue[k]);
            }
            return queued == count ? longest : 0;
        }

        private void countWaits(Loop loop) {
            Arrays.fill(waits, 0);
            for (int k = 0; k < loop.points(); k++) {
                int point = loop.pointAt(k);
                int tile = tileOf(point);
                for (int m = 0; m < loop.offsets; m++) {
                    int below = loop.target(point, m);
                    if (below != NONE && tileOf(below) != tile) {
                        waits[tile]++;
                    }
                }
            }
        }

        private int tileOf(int point) {
            return point / SIDE / high * across + point % SIDE / wide;
        }

        private void enqueue(int tile) {
            if (queued < SQUARE) {
                queue[queued] = tile;
                queued++;
            }
        }

        private void release(Loop loop, int tile) {
            int top = tile / across * high;
            int start = tile % across * wide;
            for (int i = top; i < Math.min(loop.rows, top + high); i++) {
                for (int j = start; j < Math.min(loop.columns, start + wide); j++) {
                    releaseReaders(loop, i * SIDE + j, tile);
                }
            }
        }

        private void releaseReaders(Loop loop, int point, int tile) {
            for (int k = 0; k < loop.offsets; k++) {
                int above = loop.reader(point, k);
                int other = above == NONE ? tile : tileOf(above);
                if (other == tile) {
                    continue;
                }
                rank[other] = Math.max(rank[other], rank[tile] + 1);
                waits[other]--;
                if (waits[other] == 0) {
                    enqueue(other);
                }
            }
        }

        // Tiles larger than the whole cut as those just so large do, which come first.
        boolean choose(Loop loop, int most) {
            bestRows = NONE;
            for (int r = 1; r <= loop.rows; r++) {
                for (int c = 1; c <= loop.columns && r * c <= most; c++) {
                    cut(loop, r, c);
                    boolean isFewer = bestRows == NONE || crossings < bestCrossings;
                    if (isFewer && longestRow(loop) > 0) {
                        bestRows = r;
                        bestColumns = c;
                        bestCrossings = crossings;
                    }
                }
            }
            return bestRows != NONE;
        }
    }
}
