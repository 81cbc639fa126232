/** Maps of the plane, modulo 31, that keep the quotient of two tables; see README.md. */
public final class KeptCurves {
    public static final int NONE = -1, BAD = -2, STATE = -3, FULL = -4, NOT = -5, VOID = -6, LOST = -7;
    public static final long NO = Long.MIN_VALUE;

    private static final int NOTHING = -11, BEYOND = -13, BELOW = -14, FAULTY = -100;
    private static final int PRIME = 31, ENDLESS = 31, SIDE = 32, ALL = SIDE * SIDE;
    private static final int TAPE_BYTES = 60, GREATEST_TOLD = 30;
    private static final int STEPS_AT_MOST = 99, TURNS_AT_MOST = 40, DEGREE_STEPS = 3;
    private static final int LENGTHS_FROM = 10, TALLIES_FROM = 50, WHATS_END = 90;

    /** What makes 1 with the number; 0 has nothing that does. */
    private static final int[] INVERSE = {
        0, 1, 16, 21, 8, 25, 26, 9, 4, 7, 28, 17, 13, 12, 20, 29,
        2, 11, 19, 18, 14, 3, 24, 27, 22, 5, 6, 23, 10, 15, 30
    };

    private final Curve curve;
    private final Loops loops;
    private final Degrees degrees;
    private final SpotSet spots;
    private final SpotSet after;
    private final Plan rows;
    private final Bytes tape;
    private final Bytes sheet;
    private final Lists lists;
    private final int[] sums;
    private final Tables imageTables;
    private final SpotSet imageSpots;
    private final Plan imageRows;
    private boolean imageTaken;

    public KeptCurves() {
        curve = new Curve();
        loops = new Loops();
        degrees = new Degrees();
        spots = new SpotSet();
        after = new SpotSet();
        rows = new Plan();
        tape = new Bytes();
        sheet = new Bytes();
        lists = new Lists();
        sums = new int[9];
        imageTables = new Tables();
        imageSpots = new SpotSet();
        imageRows = new Plan();
        imageTaken = false;
    }

    // ---- tables

    public int set(int table, int i, int j, int v) {
        if (!isPower(table, i, j)) {
            return NONE;
        }
        if (!isNumber(v)) {
            return BAD;
        }
        int was = curve.tables.numberAt(table, i, j);
        curve.change(table, i, j, v);
        return was;
    }

    public int of(int table, int i, int j) {
        return isPower(table, i, j) ? curve.tables.numberAt(table, i, j) : NONE;
    }

    public int feed(int letter) {
        if (letter < 1 || letter > 127) {
            return BAD;
        }
        if (tape.size >= TAPE_BYTES) {
            return FULL;
        }
        tape.append(letter);
        return tape.size;
    }

    public int table(int table) {
        if (!isTable(table)) {
            return NONE;
        }
        int terms = tape.readTerms(sums);
        tape.size = 0;
        if (terms >= 0) {
            curve.changeAll(table, sums);
        }
        return terms;
    }

    public int value(int table, int x, int y) {
        return isTable(table) && isSpot(x, y) ? curve.tables.valueAt(table, x, y) : NONE;
    }

    public int kept(int x, int y) {
        return isSpot(x, y) ? curve.tables.quotientAt(x, y) : NONE;
    }

    // ---- swaps, steps

    public int swap(int which, int x, int y) {
        if (!isAxis(which) || !isSpot(x, y)) {
            return NONE;
        }
        return which == 0 ? curve.swapOf(0, x, y) : curve.swapOf(1, y, x);
    }

    public int row(int which, int c, int what) {
        if (!isAxis(which) || !isCoordinate(c) || what < 0 || what > 2) {
            return NONE;
        }
        return curve.rowOf(which, c, what);
    }

    public long pinched(int which) {
        return isAxis(which) ? curve.pinchedLines(which) : NO;
    }

    public int behind(int x, int y, int n) {
        if (!isSpot(x, y)) {
            return NONE;
        }
        if (n < -STEPS_AT_MOST || n > STEPS_AT_MOST) {
            return BAD;
        }
        int spot = x * SIDE + y;
        return n < 0 ? curve.walkBack(spot, -n) : curve.walk(spot, n);
    }

    public int period(int x, int y) {
        return isSpot(x, y) ? curve.periodOf(x * SIDE + y) : NONE;
    }

    // ---- fibres

    public int fibre(int k, int i) {
        return isCoordinate(k) ? curve.spotWhereKept(k, i) : NONE;
    }

    public int base(int i) {
        return curve.spotWhereKept(VOID, i);
    }

    public int rank(int i) {
        return isCoordinate(i) ? curve.ranked(i) : NONE;
    }

    public int cycles(int k, int what) {
        boolean isTold = what >= 0 && what <= 2 || what >= LENGTHS_FROM && what < WHATS_END;
        if (!isCoordinate(k) || !isTold) {
            return NONE;
        }
        loops.learn(curve);
        loops.countThrough(curve, k);
        return what <= 2 ? loops.total(what) : loops.ofLength(what);
    }

    public int degree(int n, int y, int which) {
        if (!isAxis(which) || !isNumber(y)) {
            return NONE;
        }
        if (n < 0 || n > DEGREE_STEPS) {
            return BAD;
        }
        return degrees.behindSteps(curve.tables, n, y, which);
    }

    // ---- the set

    public int tell(int x, int y) {
        if (!isSpot(x, y)) {
            return NONE;
        }
        if (spots.holds(x * SIDE + y)) {
            return STATE;
        }
        if (spots.isFull()) {
            return FULL;
        }
        spots.add(x * SIDE + y);
        return spots.size;
    }

    public int forget(int x, int y) {
        if (!isSpot(x, y)) {
            return NONE;
        }
        if (!spots.holds(x * SIDE + y)) {
            return STATE;
        }
        spots.remove(x * SIDE + y);
        return spots.size;
    }

    public int told(int i) {
        return spots.spotAt(i);
    }

    public int moved(int i) {
        after.becomeSteps(spots, curve);
        return i == -1 ? after.size : after.spotAt(i);
    }

    public int move() {
        after.becomeSteps(spots, curve);
        spots.copyFrom(after);
        return spots.size;
    }

    public int grows(int n) {
        return n < 0 || n > TURNS_AT_MOST ? BAD : curve.reachOf(spots, n);
    }

    // ---- what it was, odds, plans

    public long were(int table, int i, int j, int x, int y, int k) {
        if (!isPower(table, i, j) || !isSpot(x, y) || !isCoordinate(k)) {
            return NO;
        }
        return curve.tables.numbersKeeping(table, i, j, x, y, k);
    }

    public long odds(int k, int seed, int m, int part) {
        if (!isCoordinate(k) || m < 1 || m > 30 || part < 0 || part > 1) {
            return NO;
        }
        int hits = 0;
        for (int s = 0; s < m; s++) {
            int first = drawn(seed + s);
            int second = drawn(first);
            if (curve.tables.quotientAt((first >>> 16) % SIDE, (second >>> 16) % SIDE) == k) {
                hits++;
            }
        }
        int common = commonDivisor(hits, m);
        return part == 0 ? hits / common : m / common;
    }

    public int plan(int what, int v) {
        if (what == -1) {
            rows.size = 0;
            return 0;
        }
        if (what < 0 || what > 3) {
            return NONE;
        }
        if (!rows.takes(what, v)) {
            return BAD;
        }
        if (rows.isFull()) {
            return FULL;
        }
        rows.add(what, v);
        return rows.size;
    }

    public int ends(int x, int y) {
        return isSpot(x, y) ? rows.endOf(curve, x * SIDE + y) : NONE;
    }

    // ---- written

    public int write(int table) {
        if (!isTable(table)) {
            return NONE;
        }
        sheet.writeTerms(curve.tables, table);
        return sheet.size;
    }

    public int paper(int i) {
        return i >= 0 && i < sheet.size ? sheet.byteAt(i) : NONE;
    }

    // ---- lists, the image

    public int judge(int list, int x, int y) {
        if (!lists.isList(list) || !isSpot(x, y)) {
            return NONE;
        }
        int size = lists.sizeOf(list);
        if (size < 0) {
            return NOTHING;
        }
        int spot = x * SIDE + y;
        for (int i = 0; i < size; i++) {
            boolean tellsX = i % 2 == 0;
            spot = tellsX ? curve.stepFrom(spot) : spot;
            int due = spot < 0 ? -1 : tellsX ? spot / SIDE : spot % SIDE;
            if (lists.numberAt(list, i) != due) {
                return i;
            }
        }
        return NOT;
    }

    public int list(int list, int n) {
        if (!lists.isList(list)) {
            return NONE;
        }
        if (n > Lists.PLACES) {
            return BAD;
        }
        if (n < 0) {
            return BELOW;
        }
        lists.renew(list, n);
        return 1;
    }

    public int put(int list, int i, int v) {
        if (!lists.isList(list)) {
            return NONE;
        }
        if (lists.sizeOf(list) < 0) {
            return NOTHING;
        }
        if (!lists.hasPlace(list, i)) {
            return BEYOND;
        }
        lists.change(list, i, v);
        return 1;
    }

    public long get(int list, int i) {
        return lists.hasPlace(list, i) ? lists.numberAt(list, i) : NO;
    }

    public int image() {
        imageTables.copyFrom(curve.tables);
        imageSpots.copyFrom(spots);
        imageRows.copyFrom(rows);
        imageTaken = true;
        return spots.size;
    }

    public int undo() {
        if (!imageTaken) {
            return STATE;
        }
        curve.changeBack(imageTables);
        spots.copyFrom(imageSpots);
        rows.copyFrom(imageRows);
        return spots.size;
    }

    public int count(int what) {
        switch (what) {
            case 0: return spots.size;
            case 1: return curve.tables.notZero();
            case 2: return tape.size;
            case 3: return sheet.size;
            case 4: return rows.size;
            default: return BAD;
        }
    }

    // ---- what is told, and numbers modulo 31

    private static boolean isNumber(int v) {
        return v >= 0 && v < PRIME;
    }

    private static boolean isCoordinate(int c) {
        return c >= 0 && c < SIDE;
    }

    private static boolean isSpot(int x, int y) {
        return isCoordinate(x) && isCoordinate(y);
    }

    private static boolean isAxis(int which) {
        return which == 0 || which == 1;
    }

    private static boolean isTable(int table) {
        return table == 0 || table == 1;
    }

    private static boolean isPower(int table, int i, int j) {
        return isTable(table) && i >= 0 && i <= 2 && j >= 0 && j <= 2;
    }

    private static int modulo(int v) {
        return Math.floorMod(v, PRIME);
    }

    /** Any ints; the answer is a coordinate or VOID. */
    private static int quotient(int u, int v) {
        int above = Math.floorMod(u, PRIME);
        int below = Math.floorMod(v, PRIME);
        if (below == 0) {
            return above == 0 ? VOID : ENDLESS;
        }
        return above * INVERSE[below] % PRIME;
    }

    /** For an endless c only the number of the highest power counts. */
    private static int quadraticAt(int n0, int n1, int n2, int c) {
        return c == ENDLESS ? n2 : (n0 + (n1 + n2 * c) * c) % PRIME;
    }

    /** What a 1 that stands alone at that power would come to. */
    private static int powerAt(int power, int c) {
        return quadraticAt(power == 0 ? 1 : 0, power == 1 ? 1 : 0, power == 2 ? 1 : 0, c);
    }

    private static int drawn(int z) {
        return z * 1103515245 + 12345;
    }

    /** Never 0, so that both may be divided by it. */
    private static int commonDivisor(int u, int v) {
        int left = u;
        int right = v;
        for (int turn = 0; turn < 64 && right > 0; turn++) {
            int rest = left % right;
            left = right;
            right = rest;
        }
        return left > 0 ? left : 1;
    }

    /** The numbers of TABLES 0 and 1, each at 9 table + 3 i + j. */
    private static final class Tables {
        private final int[] numbers = new int[18];

        int numberAt(int table, int i, int j) {
            int place = 9 * table + 3 * i + j;
            return place >= 0 && place < numbers.length ? numbers[place] : 0;
        }

        void change(int table, int i, int j, int v) {
            int place = 9 * table + 3 * i + j;
            if (place >= 0 && place < numbers.length) {
                numbers[place] = v;
            }
        }

        void copyFrom(Tables other) {
            System.arraycopy(other.numbers, 0, numbers, 0, numbers.length);
        }

        int notZero() {
            int found = 0;
            for (int number : numbers) {
                found += number == 0 ? 0 : 1;
            }
            return found;
        }

        /** The power is that of the coordinate that is swapped, the other one that of the line. */
        int numberAlong(int which, int table, int power, int other) {
            int place = 9 * table + (which == 0 ? 3 * power + other : 3 * other + power);
            return place >= 0 && place < numbers.length ? numbers[place] : 0;
        }

        int sumAt(int which, int table, int power, int c) {
            int n0 = numberAlong(which, table, power, 0);
            int n1 = numberAlong(which, table, power, 1);
            int n2 = numberAlong(which, table, power, 2);
            return quadraticAt(n0, n1, n2, c);
        }

        int valueAt(int table, int x, int y) {
            return quadraticAt(sumAt(0, table, 0, y), sumAt(0, table, 1, y), sumAt(0, table, 2, y), x);
        }

        int quotientAt(int x, int y) {
            return quotient(valueAt(0, x, y), valueAt(1, x, y));
        }

        /** A VALUE is linear in each single number, so nothing has to be changed to see what it would be. */
        long numbersKeeping(int table, int i, int j, int x, int y, int k) {
            int weight = powerAt(i, x) * powerAt(j, y) % PRIME;
            int others = valueAt(table, x, y) - weight * numberAt(table, i, j);
            int above = valueAt(0, x, y);
            int below = valueAt(1, x, y);
            long found = 0;
            for (int v = 0; v < PRIME; v++) {
                int would = others + weight * v;
                int quotient = table == 0 ? quotient(would, below) : quotient(above, would);
                if (quotient == k) {
                    found |= 1L << v;
                }
            }
            return found;
        }
    }

    /** The tables and what follows from them; what has been worked out is kept until they change. */
    private static final class Curve {
        private static final int UNKNOWN = -100;

        final Tables tables = new Tables();
        /** Others, too, see by it whether what they worked out is of these tables. */
        int version = 1;
        private int rowsVersion = 0;
        private int keptVersion = 0;
        private final int[] swapRows = new int[2 * SIDE * 3];
        private final int[] keptOf = new int[ALL];
        private final int[] fibreSizes = new int[SIDE];
        private final int[] aheadOf = new int[ALL];
        private final boolean[] reached = new boolean[ALL];
        private final int[] queue = new int[ALL];

        void change(int table, int i, int j, int v) {
            tables.change(table, i, j, v);
            version++;
        }

        void changeAll(int table, int[] sums) {
            for (int place = 0; place < 9 && place < sums.length; place++) {
                tables.change(table, place / 3, place % 3, sums[place]);
            }
            version++;
        }

        void changeBack(Tables image) {
            tables.copyFrom(image);
            version++;
        }

        private void learnRows() {
            if (rowsVersion == version) {
                return;
            }
            rowsVersion = version;
            for (int spot = 0; spot < ALL; spot++) {
                aheadOf[spot] = UNKNOWN;
            }
            for (int line = 0; line < 2 * SIDE; line++) {
                int which = line / SIDE;
                int c = line % SIDE;
                int a0 = tables.sumAt(which, 0, 0, c);
                int a1 = tables.sumAt(which, 0, 1, c);
                int a2 = tables.sumAt(which, 0, 2, c);
                int b0 = tables.sumAt(which, 1, 0, c);
                int b1 = tables.sumAt(which, 1, 1, c);
                int b2 = tables.sumAt(which, 1, 2, c);
                swapRows[3 * line] = modulo(a2 * b1 - a1 * b2);
                swapRows[3 * line + 1] = modulo(a2 * b0 - a0 * b2);
                swapRows[3 * line + 2] = modulo(a1 * b0 - a0 * b1);
            }
        }

        private int knownRow(int which, int c, int what) {
            int place = (which * SIDE + c) * 3 + what;
            return place >= 0 && place < swapRows.length ? swapRows[place] : 0;
        }

        int rowOf(int which, int c, int what) {
            learnRows();
            return knownRow(which, c, what);
        }

        long pinchedLines(int which) {
            learnRows();
            long lines = 0;
            for (int c = 0; c < SIDE; c++) {
                int q = knownRow(which, c, 1);
                if (modulo(q * q - knownRow(which, c, 0) * knownRow(which, c, 2)) == 0) {
                    lines |= 1L << c;
                }
            }
            return lines;
        }

        int swapOf(int which, int moving, int line) {
            learnRows();
            return knownSwap(which, moving, line);
        }

        private int knownSwap(int which, int moving, int line) {
            int p = knownRow(which, line, 0);
            int q = knownRow(which, line, 1);
            int r = knownRow(which, line, 2);
            int other = moving == ENDLESS ? quotient(-q, p) : quotient(-(q * moving + r), p * moving + q);
            return other == VOID ? LOST : other;
        }

        /** What is LOST already is no spot, and stays LOST. */
        int stepFrom(int spot) {
            if (spot < 0 || spot >= ALL) {
                return LOST;
            }
            learnRows();
            if (aheadOf[spot] == UNKNOWN) {
                int x = knownSwap(0, spot / SIDE, spot % SIDE);
                int y = x == LOST ? LOST : knownSwap(1, spot % SIDE, x);
                aheadOf[spot] = y == LOST ? LOST : x * SIDE + y;
            }
            return aheadOf[spot];
        }

        int stepBackFrom(int spot) {
            if (spot < 0 || spot >= ALL) {
                return LOST;
            }
            learnRows();
            int y = knownSwap(1, spot % SIDE, spot / SIDE);
            int x = y == LOST ? LOST : knownSwap(0, spot / SIDE, y);
            return x == LOST ? LOST : x * SIDE + y;
        }

        int walk(int spot, int steps) {
            int now = spot;
            for (int s = 0; s < steps; s++) {
                now = stepFrom(now);
            }
            return now;
        }

        int walkBack(int spot, int steps) {
            int now = spot;
            for (int s = 0; s < steps; s++) {
                now = stepBackFrom(now);
            }
            return now;
        }

        int periodOf(int spot) {
            int now = spot;
            for (int steps = 1; steps <= ALL; steps++) {
                now = stepFrom(now);
                if (now == LOST) {
                    return LOST;
                }
                if (now == spot) {
                    return steps;
                }
            }
            return NOT;
        }

        private void learnKept() {
            if (keptVersion == version) {
                return;
            }
            keptVersion = version;
            for (int k = 0; k < SIDE; k++) {
                fibreSizes[k] = 0;
            }
            for (int y = 0; y < SIDE; y++) {
                int a0 = tables.sumAt(0, 0, 0, y);
                int a1 = tables.sumAt(0, 0, 1, y);
                int a2 = tables.sumAt(0, 0, 2, y);
                int b0 = tables.sumAt(0, 1, 0, y);
                int b1 = tables.sumAt(0, 1, 1, y);
                int b2 = tables.sumAt(0, 1, 2, y);
                for (int x = 0; x < SIDE; x++) {
                    int k = quotient(quadraticAt(a0, a1, a2, x), quadraticAt(b0, b1, b2, x));
                    keptOf[x * SIDE + y] = k;
                    if (k >= 0 && k < SIDE) {
                        fibreSizes[k]++;
                    }
                }
            }
        }

        boolean keeps(int spot, int k) {
            learnKept();
            return spot >= 0 && spot < ALL && keptOf[spot] == k;
        }

        /** By the spots' numbers the order is by x, then y, endless last, of itself. */
        int spotWhereKept(int k, int i) {
            learnKept();
            int found = 0;
            for (int spot = 0; spot < ALL; spot++) {
                if (keptOf[spot] == k) {
                    if (found == i) {
                        return spot;
                    }
                    found++;
                }
            }
            return i == -1 ? found : NOT;
        }

        int ranked(int i) {
            learnKept();
            for (int k = 0; k < SIDE; k++) {
                int ahead = 0;
                for (int other = 0; other < SIDE; other++) {
                    boolean more = fibreSizes[other] > fibreSizes[k];
                    boolean like = fibreSizes[other] == fibreSizes[k];
                    ahead += more || like && other < k ? 1 : 0;
                }
                if (ahead == i) {
                    return k;
                }
            }
            return NONE;
        }

        int reachOf(SpotSet set, int turns) {
            for (int spot = 0; spot < ALL; spot++) {
                reached[spot] = false;
            }
            int size = 0;
            for (int i = 0; i < set.size; i++) {
                size = reach(set.spotAt(i), size);
            }
            int from = 0;
            for (int turn = 0; turn < turns; turn++) {
                int end = size;
                for (; from < end && from < ALL; from++) {
                    size = reach(stepFrom(queue[from]), size);
                }
            }
            return size;
        }

        private int reach(int spot, int size) {
            if (spot < 0 || spot >= ALL || size < 0 || size >= ALL || reached[spot]) {
                return size;
            }
            reached[spot] = true;
            queue[size] = spot;
            return size + 1;
        }
    }

    /** All cycles of the steps; each is named by one of its spots. */
    private static final class Loops {
        private final int[] nameOf = new int[ALL];
        private final int[] sizeOf = new int[ALL];
        private final int[] marks = new int[ALL];
        private final int[] tally = new int[ALL + 1];
        private int version = 0;

        /** Walks that run into an earlier walk end there: each spot is passed once. */
        void learn(Curve curve) {
            if (version == curve.version) {
                return;
            }
            version = curve.version;
            for (int spot = 0; spot < ALL; spot++) {
                nameOf[spot] = -1;
                sizeOf[spot] = 0;
                marks[spot] = -1;
            }
            for (int start = 0; start < ALL; start++) {
                int spot = start;
                for (int steps = 0; steps < ALL && isUnmarked(spot); steps++) {
                    marks[spot] = start;
                    spot = curve.stepFrom(spot);
                }
                if (spot >= 0 && spot < ALL && marks[spot] == start && nameOf[spot] == -1) {
                    goRound(curve, spot);
                }
            }
        }

        private boolean isUnmarked(int spot) {
            return spot >= 0 && spot < ALL && marks[spot] == -1;
        }

        private void goRound(Curve curve, int first) {
            if (first < 0 || first >= ALL) {
                return;
            }
            int spot = first;
            for (int steps = 0; steps < ALL && spot >= 0 && spot < ALL && nameOf[spot] == -1; steps++) {
                nameOf[spot] = first;
                sizeOf[first]++;
                spot = curve.stepFrom(spot);
            }
        }

        void countThrough(Curve curve, int k) {
            for (int size = 0; size <= ALL; size++) {
                tally[size] = 0;
            }
            for (int spot = 0; spot < ALL; spot++) {
                marks[spot] = 0;
            }
            for (int spot = 0; spot < ALL; spot++) {
                int name = nameOf[spot];
                if (name >= 0 && name < ALL && marks[name] == 0 && curve.keeps(spot, k)) {
                    marks[name] = 1;
                    tallyOne(sizeOf[name]);
                }
            }
        }

        private void tallyOne(int size) {
            if (size >= 0 && size <= ALL) {
                tally[size]++;
            }
        }

        int total(int what) {
            int found = 0;
            for (int size = 1; size <= ALL; size++) {
                if (tally[size] > 0) {
                    found += what == 0 ? tally[size] : what == 1 ? tally[size] * size : 1;
                }
            }
            return found;
        }

        int ofLength(int what) {
            boolean asksLength = what < TALLIES_FROM;
            int i = asksLength ? what - LENGTHS_FROM : what - TALLIES_FROM;
            int found = 0;
            for (int size = 1; size <= ALL; size++) {
                if (tally[size] > 0) {
                    if (found == i) {
                        return asksLength ? size : tally[size];
                    }
                    found++;
                }
            }
            return NOT;
        }
    }

    /** Up to twelve spots, by x, then y. */
    private static final class SpotSet {
        private final int[] places = new int[12];
        int size = 0;

        boolean isFull() {
            return size >= places.length;
        }

        boolean holds(int spot) {
            for (int i = 0; i < size && i < places.length; i++) {
                if (places[i] == spot) {
                    return true;
                }
            }
            return false;
        }

        int spotAt(int i) {
            return i >= 0 && i < size && i < places.length ? places[i] : NOT;
        }

        void add(int spot) {
            if (isFull() || holds(spot)) {
                return;
            }
            int place = size;
            for (; place > 0 && place < places.length && places[place - 1] > spot; place--) {
                places[place] = places[place - 1];
            }
            if (place >= 0 && place < places.length) {
                places[place] = spot;
                size++;
            }
        }

        void remove(int spot) {
            int left = 0;
            for (int i = 0; i < size && i < places.length; i++) {
                if (places[i] != spot && left <= i) {
                    places[left] = places[i];
                    left++;
                }
            }
            size = left;
        }

        void copyFrom(SpotSet other) {
            System.arraycopy(other.places, 0, places, 0, places.length);
            size = other.size;
        }

        void becomeSteps(SpotSet from, Curve curve) {
            size = 0;
            for (int i = 0; i < from.size; i++) {
                int spot = curve.stepFrom(from.spotAt(i));
                if (spot != LOST) {
                    add(spot);
                }
            }
        }
    }

    /** Rows that are done to a spot in thought. */
    private static final class Plan {
        private final int[] whats = new int[8];
        private final int[] amounts = new int[8];
        int size = 0;

        boolean isFull() {
            return size >= whats.length;
        }

        boolean takes(int what, int v) {
            return what == 3 || (what == 2 ? v == 0 || v == 1 : v >= 1 && v <= 9);
        }

        void add(int what, int v) {
            if (size >= 0 && size < whats.length && size < amounts.length) {
                whats[size] = what;
                amounts[size] = v;
                size++;
            }
        }

        void copyFrom(Plan other) {
            System.arraycopy(other.whats, 0, whats, 0, whats.length);
            System.arraycopy(other.amounts, 0, amounts, 0, amounts.length);
            size = other.size;
        }

        int endOf(Curve curve, int spot) {
            int now = spot;
            for (int i = 0; i < size && i < whats.length && i < amounts.length; i++) {
                if (whats[i] == 3) {
                    now = now % SIDE * SIDE + now / SIDE;
                } else if (whats[i] == 2) {
                    now = swappedIfItGoes(curve, amounts[i], now);
                } else {
                    now = steppedAsFarAsItGoes(curve, whats[i] == 1, amounts[i], now);
                }
            }
            return now;
        }

        private int swappedIfItGoes(Curve curve, int which, int spot) {
            int x = spot / SIDE;
            int y = spot % SIDE;
            int other = which == 0 ? curve.swapOf(0, x, y) : curve.swapOf(1, y, x);
            if (other == LOST) {
                return spot;
            }
            return which == 0 ? other * SIDE + y : x * SIDE + other;
        }

        private int steppedAsFarAsItGoes(Curve curve, boolean back, int steps, int spot) {
            int now = spot;
            for (int s = 0; s < steps; s++) {
                int next = back ? curve.stepBackFrom(now) : curve.stepFrom(now);
                if (next == LOST) {
                    return now;
                }
                now = next;
            }
            return now;
        }
    }

    /** A text of bytes: that of the tape, or that of the paper. */
    private static final class Bytes {
        private final int[] signs = new int[TAPE_BYTES];
        int size = 0;

        void append(int sign) {
            if (size >= 0 && size < signs.length) {
                signs[size] = sign;
                size++;
            }
        }

        /** 0 stands for the end, as no byte is 0. */
        int byteAt(int i) {
            return i >= 0 && i < size && i < signs.length ? signs[i] : 0;
        }

        private int alikeFrom(int place, char sign) {
            if (byteAt(place) != sign) {
                return 0;
            }
            return byteAt(place + 1) == sign ? 2 : 1;
        }

        /** How many terms, or what a fault answers; a second figure that fits no number is taken by nothing behind it. */
        int readTerms(int[] sums) {
            for (int place = 0; place < sums.length; place++) {
                sums[place] = 0;
            }
            int place = 0;
            for (int terms = 1; terms <= TAPE_BYTES; terms++) {
                int number = byteAt(place) - '0';
                if (number < 1 || number > 9) {
                    return FAULTY - place;
                }
                place++;
                int figure = byteAt(place) - '0';
                if (figure >= 0 && figure <= 9 && 10 * number + figure <= GREATEST_TOLD) {
                    number = 10 * number + figure;
                    place++;
                }
                int i = alikeFrom(place, 'x');
                place += i;
                int j = alikeFrom(place, 'y');
                place += j;
                addTo(sums, 3 * i + j, number);
                if (place >= size) {
                    return terms;
                }
                if (byteAt(place) != '+') {
                    return FAULTY - place;
                }
                place++;
            }
            return FAULTY - place;
        }

        private static void addTo(int[] sums, int place, int number) {
            if (place >= 0 && place < sums.length) {
                sums[place] = modulo(sums[place] + number);
            }
        }

        void writeTerms(Tables tables, int table) {
            size = 0;
            for (int i = 2; i >= 0; i--) {
                for (int j = 2; j >= 0; j--) {
                    int number = tables.numberAt(table, i, j);
                    if (number > 0) {
                        writeTerm(number, i, j);
                    }
                }
            }
        }

        private void writeTerm(int number, int i, int j) {
            if (size > 0) {
                append('+');
            }
            if (number > 9) {
                append('0' + number / 10);
            }
            append('0' + number % 10);
            for (int n = 0; n < i; n++) {
                append('x');
            }
            for (int n = 0; n < j; n++) {
                append('y');
            }
        }
    }

    /** Lists 0 to 3; a size of -1 tells that nothing is held. */
    private static final class Lists {
        static final int PLACES = 12;
        private static final int LISTS = 4;

        private final int[] sizes = {-1, -1, -1, -1};
        private final int[] numbers = new int[LISTS * PLACES];

        boolean isList(int list) {
            return list >= 0 && list < LISTS && list < sizes.length;
        }

        int sizeOf(int list) {
            return isList(list) ? sizes[list] : -1;
        }

        boolean hasPlace(int list, int i) {
            return i >= 0 && i < PLACES && i < sizeOf(list);
        }

        int numberAt(int list, int i) {
            return hasPlace(list, i) ? numbers[list * PLACES + i] : 0;
        }

        void change(int list, int i, int v) {
            if (hasPlace(list, i)) {
                numbers[list * PLACES + i] = v;
            }
        }

        void renew(int list, int size) {
            if (!isList(list) || size < 0 || size > PLACES) {
                return;
            }
            sizes[list] = size;
            for (int i = 0; i < size; i++) {
                numbers[list * PLACES + i] = 0;
            }
        }
    }

    /** A polynomial in the unknown; no number at size or above is other than 0. */
    private static final class Poly {
        /** Three steps from degrees 1 and 0 come to 1292 at most, even if nothing ever cancels. */
        static final int LONGEST = 1300;

        private final int[] numbers = new int[LONGEST];
        int size = 0;

        boolean isZero() {
            return size == 0;
        }

        void clear() {
            for (int i = 0; i < size && i < LONGEST; i++) {
                numbers[i] = 0;
            }
            size = 0;
        }

        void becomeNumber(int number) {
            clear();
            numbers[0] = modulo(number);
            trim(1);
        }

        void becomeUnknown() {
            clear();
            numbers[1] = 1;
            size = 2;
        }

        void copyFrom(Poly other) {
            System.arraycopy(other.numbers, 0, numbers, 0, LONGEST);
            size = other.size;
        }

        private void trim(int from) {
            size = from < LONGEST ? from : LONGEST;
            for (; size > 0 && numbers[size - 1] == 0; size--) {
                continue;
            }
        }

        void addTimes(Poly other, int factor) {
            for (int i = 0; i < other.size && i < LONGEST; i++) {
                numbers[i] = modulo(numbers[i] + factor * other.numbers[i]);
            }
            trim(Math.max(size, other.size));
        }

        /** Sums of products of two numbers below 31 stay far below an int's end, so they are reduced once, behind all. */
        void addProduct(Poly left, Poly right, int sign) {
            for (int i = 0; i < left.size && i < LONGEST; i++) {
                int factor = sign * left.numbers[i];
                for (int j = 0; factor != 0 && j < right.size && i + j < LONGEST; j++) {
                    numbers[i + j] += factor * right.numbers[j];
                }
            }
            int end = Math.min(LONGEST, Math.max(size, left.size + right.size));
            for (int i = 0; i < end; i++) {
                numbers[i] = modulo(numbers[i]);
            }
            trim(end);
        }

        /** Leaves the remainder here and the quotient in the third. */
        void divide(Poly by, Poly quotient) {
            quotient.clear();
            if (by.size < 1 || by.size > LONGEST || size > LONGEST || size < by.size) {
                return;
            }
            int inverse = INVERSE[modulo(by.numbers[by.size - 1])];
            for (int shift = size - by.size; shift >= 0; shift--) {
                int factor = numbers[shift + by.size - 1] * inverse % PRIME;
                quotient.numbers[shift] = factor;
                for (int i = 0; factor != 0 && i < by.size; i++) {
                    numbers[shift + i] = modulo(numbers[shift + i] - factor * by.numbers[i]);
                }
            }
            quotient.trim(size - by.size + 1);
            trim(size);
        }
    }

    /** One polynomial by another, in lowest terms. */
    private static final class Fraction {
        final Poly above = new Poly();
        final Poly below = new Poly();

        int ofDegree() {
            return above.isZero() || below.isZero() ? 0 : Math.max(above.size, below.size) - 1;
        }
    }

    /** Steps of fractions of polynomials, with polynomials that are used again by every call. */
    private static final class Degrees {
        private final Fraction x = new Fraction();
        private final Fraction y = new Fraction();
        private final Poly[] squares = {new Poly(), new Poly(), new Poly()};
        private final Poly[] above = {new Poly(), new Poly(), new Poly()};
        private final Poly[] below = {new Poly(), new Poly(), new Poly()};
        private final Poly p = new Poly();
        private final Poly q = new Poly();
        private final Poly r = new Poly();
        private final Poly u = new Poly();
        private final Poly v = new Poly();
        private final Poly left = new Poly();
        private final Poly right = new Poly();
        private final Poly spare = new Poly();

        int behindSteps(Tables tables, int n, int number, int which) {
            x.above.becomeUnknown();
            x.below.becomeNumber(1);
            y.above.becomeNumber(number);
            y.below.becomeNumber(1);
            for (int s = 0; s < n; s++) {
                if (!swaps(tables, 0, x, y) || !swaps(tables, 1, y, x)) {
                    return LOST;
                }
            }
            return which == 0 ? x.ofDegree() : y.ofDegree();
        }

        private boolean swaps(Tables tables, int which, Fraction moving, Fraction line) {
            readSquares(line);
            for (int power = 0; power < 3; power++) {
                readRow(above[power], tables, which, 0, power);
                readRow(below[power], tables, which, 1, power);
            }
            readCross(p, 2, 1);
            readCross(q, 2, 0);
            readCross(r, 1, 0);
            u.clear();
            u.addProduct(q, moving.above, -1);
            u.addProduct(r, moving.below, -1);
            v.clear();
            v.addProduct(p, moving.above, 1);
            v.addProduct(q, moving.below, 1);
            if (u.isZero() && v.isZero()) {
                return false;
            }
            Poly common = commonFactor();
            u.divide(common, moving.above);
            v.divide(common, moving.below);
            return true;
        }

        private void readSquares(Fraction line) {
            for (int power = 0; power < 3; power++) {
                squares[power].clear();
            }
            squares[0].addProduct(line.below, line.below, 1);
            squares[1].addProduct(line.above, line.below, 1);
            squares[2].addProduct(line.above, line.above, 1);
        }

        private void readRow(Poly sum, Tables tables, int which, int table, int power) {
            sum.clear();
            for (int other = 0; other < 3; other++) {
                sum.addTimes(squares[other], tables.numberAlong(which, table, power, other));
            }
        }

        private void readCross(Poly cross, int high, int low) {
            cross.clear();
            if (low >= 0 && low < high && high < 3) {
                cross.addProduct(above[high], below[low], 1);
                cross.addProduct(above[low], below[high], -1);
            }
        }

        /** Of u and v, that are not both 0; each turn lowers a degree. */
        private Poly commonFactor() {
            left.copyFrom(u);
            right.copyFrom(v);
            Poly one = left;
            Poly other = right;
            for (int turn = 0; turn < 2 * Poly.LONGEST && !other.isZero(); turn++) {
                one.divide(other, spare);
                Poly rest = one;
                one = other;
                other = rest;
            }
            return one;
        }
    }
}
