import java.util.ArrayList;
import java.util.List;

/**
 * What is answered NONE, BAD, STATE, FULL, NOT, VOID, LOST, NOTHING, BEYOND, BELOW or NO changes nothing, and what is
 * asked changes nothing but THE PAPER: of two objects alike, one gets the call, and all that both tell must be the same.
 */
public final class RefusalRuns {
    private static final long NO = Long.MIN_VALUE;
    private static final int MIN = Integer.MIN_VALUE, MAX = Integer.MAX_VALUE;
    private static final int NONE = -1, BAD = -2, STATE = -3, FULL = -4, NOT = -5, VOID = -6, LOST = -7;
    private static final int NOTHING = -11, BEYOND = -13, BELOW = -14;
    /** How an object is made that a call finds. */
    private static final int NEW = 0, SOME = 1, ALL = 2, KINDS = 3;
    private static final String[] KIND_NAMES = {"a new object", "some held", "all full"};

    private static int wrong = 0;

    private interface Call {
        long on(KeptCurves curves);
    }

    public static void main(String[] args) {
        for (int kind = 0; kind < KINDS; kind++) {
            refusedTables(kind);
            refusedSteps(kind);
            refusedFibres(kind);
            refusedSets(kind);
            refusedOddsAndPlans(kind);
            refusedLists(kind);
            asked(kind);
        }
        refusedByWhatIsHeld();
        faults();
        writing();
        System.out.println(wrong == 0 ? "RefusalRuns: all answers are as due" : "RefusalRuns: " + wrong + " are not as due");
        if (wrong != 0) {
            System.exit(1);
        }
    }

    // ---- objects, and all that they tell

    private static void feedAll(KeptCurves curves, String text) {
        for (int i = 0; i < text.length(); i++) {
            curves.feed(text.charAt(i));
        }
    }

    private static KeptCurves made(int kind) {
        KeptCurves curves = new KeptCurves();
        if (kind == SOME) {
            some(curves);
        }
        if (kind == ALL) {
            all(curves);
        }
        return curves;
    }

    /** LIST 1 is a row of none, LIST 3 is not held; THE IMAGE is not what is held now. */
    private static void some(KeptCurves curves) {
        curves.set(0, 2, 2, 7);
        curves.tell(9, 9);
        curves.image();
        feedAll(curves, "3xxyy+2x+1y+4");
        curves.table(0);
        feedAll(curves, "1xx+5yy+2");
        curves.table(1);
        curves.tell(2, 3);
        curves.tell(0, 25);
        curves.plan(0, 2);
        curves.plan(3, 0);
        curves.list(0, 5);
        curves.put(0, 1, 77);
        curves.list(1, 0);
        curves.list(2, 2);
        curves.write(1);
        feedAll(curves, "5x+1");
    }

    private static void all(KeptCurves curves) {
        for (int n = 0; n < 12; n++) {
            curves.tell(31 - n, n);
        }
        for (int n = 0; n < 8; n++) {
            curves.plan(n % 2 == 0 ? 0 : 2, n == 0 ? 9 : 1);
        }
        curves.set(0, 1, 1, 3);
        curves.image();
        for (int place = 0; place < 18; place++) {
            curves.set(place / 9, place / 3 % 3, place % 3, 11 + (place * place + place) % 19);
        }
        for (int list = 0; list < 4; list++) {
            curves.list(list, 12);
            curves.put(list, 0, 40 + list);
            curves.put(list, 11, -1 - list);
        }
        curves.write(0);
        feedAll(curves, "10xxyy+10xxyy+10xxyy+10xxyy+10xxyy+10xxyy+10xxyy+10xxyy+10xy");
    }

    private static List<Long> tells(KeptCurves curves, boolean tapeToo) {
        List<Long> tells = new ArrayList<>();
        addHeld(tells, curves);
        addWorkedOut(tells, curves);
        tells.add((long) (tapeToo ? curves.count(2) : 0));
        tells.add((long) (tapeToo ? curves.table(0) : 0));
        addTables(tells, curves);
        tells.add((long) curves.undo());
        addTables(tells, curves);
        for (int i = 0; i < 12; i++) {
            tells.add((long) curves.told(i));
        }
        tells.add((long) curves.count(4));
        tells.add((long) curves.ends(2, 3));
        return tells;
    }

    private static void addTables(List<Long> tells, KeptCurves curves) {
        for (int place = 0; place < 18; place++) {
            tells.add((long) curves.of(place / 9, place / 3 % 3, place % 3));
        }
    }

    private static void addHeld(List<Long> tells, KeptCurves curves) {
        addTables(tells, curves);
        for (int what : new int[] {0, 1, 3, 4}) {
            tells.add((long) curves.count(what));
        }
        for (int i = 0; i < 12; i++) {
            tells.add((long) curves.told(i));
        }
        for (int i = 0; i < curves.count(3) && i < 44; i++) {
            tells.add((long) curves.paper(i));
        }
        for (int list = 0; list < 4; list++) {
            for (int i : new int[] {0, 1, 2, 4, 5, 11}) {
                tells.add(curves.get(list, i));
            }
        }
    }

    private static void addWorkedOut(List<Long> tells, KeptCurves curves) {
        for (int spot : new int[] {67, 25, 1023, 992}) {
            tells.add((long) curves.ends(spot / 32, spot % 32));
            tells.add((long) curves.kept(spot / 32, spot % 32));
            tells.add((long) curves.behind(spot / 32, spot % 32, 1));
            tells.add((long) curves.period(spot / 32, spot % 32));
        }
        tells.add(curves.pinched(0));
        tells.add((long) curves.fibre(5, -1));
        tells.add((long) curves.cycles(0, 1));
        tells.add((long) curves.moved(0));
        tells.add((long) curves.grows(40));
        tells.add((long) curves.rank(0));
    }

    private static final List<List<Long>> UNTOUCHED = new ArrayList<>();

    private static List<Long> untouched(int kind) {
        while (UNTOUCHED.size() < KINDS) {
            UNTOUCHED.add(tells(made(UNTOUCHED.size()), true));
        }
        return UNTOUCHED.get(kind);
    }

    private static void fail(int promise, String words) {
        wrong++;
        System.out.println("promise " + promise + ", " + words);
    }

    private static void refuses(int promise, int kind, String words, long want, Call call) {
        KeptCurves curves = made(kind);
        long got = call.on(curves);
        if (got != want) {
            fail(promise, words + " with " + KIND_NAMES[kind] + ": answered " + got + ", due is " + want);
        }
        if (!tells(curves, true).equals(untouched(kind))) {
            fail(promise, words + " with " + KIND_NAMES[kind] + " changes what the object tells");
        }
    }

    private static void asks(int promise, int kind, String words, Call call) {
        KeptCurves curves = made(kind);
        call.on(curves);
        if (!tells(curves, true).equals(untouched(kind))) {
            fail(promise, words + " with " + KIND_NAMES[kind] + " changes what the object tells");
        }
    }

    // ---- what is refused, whatever is held

    private static void refusedTables(int kind) {
        for (int t : new int[] {MIN, -1, 2, MAX}) {
            refuses(2, kind, "set of TABLE " + t, NONE, c -> c.set(t, 0, 0, 5));
            refuses(2, kind, "set of TABLE " + t + ", BAD, too", NONE, c -> c.set(t, 0, 0, 31));
            refuses(3, kind, "of of TABLE " + t, NONE, c -> c.of(t, 0, 0));
            refuses(5, kind, "table of TABLE " + t, NONE, c -> c.table(t));
            refuses(6, kind, "value of TABLE " + t, NONE, c -> c.value(t, 0, 0));
            refuses(28, kind, "write of TABLE " + t, NONE, c -> c.write(t));
        }
        for (int p : new int[] {MIN, -1, 3, MAX}) {
            refuses(2, kind, "set with i " + p, NONE, c -> c.set(0, p, 0, 5));
            refuses(2, kind, "set with j " + p, NONE, c -> c.set(1, 0, p, 5));
            refuses(3, kind, "of with i " + p, NONE, c -> c.of(0, p, 0));
            refuses(3, kind, "of with j " + p, NONE, c -> c.of(1, 0, p));
        }
        for (int v : new int[] {MIN, -1, 31, MAX}) {
            refuses(2, kind, "set to " + v, BAD, c -> c.set(0, 0, 0, v));
            refuses(2, kind, "set to " + v, BAD, c -> c.set(1, 2, 2, v));
        }
        for (int letter : new int[] {MIN, -1, 0, 128, 305, MAX}) {
            refuses(4, kind, "feed of " + letter, BAD, c -> c.feed(letter));
        }
        for (int i : new int[] {MIN, -1, 60, MAX}) {
            refuses(29, kind, "paper at " + i, NONE, c -> c.paper(i));
        }
        for (int what : new int[] {MIN, -1, 5, MAX}) {
            refuses(36, kind, "count of " + what, BAD, c -> c.count(what));
        }
    }

    private static void refusedSteps(int kind) {
        for (int o : new int[] {MIN, -1, 32, MAX}) {
            refuses(6, kind, "value at x " + o, NONE, c -> c.value(0, o, 0));
            refuses(6, kind, "value at y " + o, NONE, c -> c.value(1, 0, o));
            refuses(7, kind, "kept at x " + o, NONE, c -> c.kept(o, 0));
            refuses(7, kind, "kept at y " + o, NONE, c -> c.kept(0, o));
            refuses(8, kind, "swap at x " + o, NONE, c -> c.swap(0, o, 0));
            refuses(8, kind, "swap at y " + o, NONE, c -> c.swap(1, 0, o));
            refuses(9, kind, "row at " + o, NONE, c -> c.row(0, o, 0));
            refuses(11, kind, "behind from x " + o, NONE, c -> c.behind(o, 0, 1));
            refuses(11, kind, "behind from y " + o, NONE, c -> c.behind(0, o, 100));
            refuses(12, kind, "period from x " + o, NONE, c -> c.period(o, 0));
            refuses(12, kind, "period from y " + o, NONE, c -> c.period(0, o));
            refuses(27, kind, "ends from x " + o, NONE, c -> c.ends(o, 0));
            refuses(27, kind, "ends from y " + o, NONE, c -> c.ends(0, o));
        }
        for (int w : new int[] {MIN, -1, 2, MAX}) {
            refuses(8, kind, "swap of which " + w, NONE, c -> c.swap(w, 0, 0));
            refuses(9, kind, "row of which " + w, NONE, c -> c.row(w, 0, 0));
            refuses(9, kind, "row of what " + (w == 2 ? 3 : w), NONE, c -> c.row(0, 0, w == 2 ? 3 : w));
            refuses(10, kind, "pinched of which " + w, NO, c -> c.pinched(w));
        }
        for (int n : new int[] {MIN, -100, 100, MAX}) {
            refuses(11, kind, "behind " + n, BAD, c -> c.behind(0, 0, n));
        }
    }

    private static void refusedFibres(int kind) {
        for (int k : new int[] {MIN, -1, 32, MAX}) {
            refuses(13, kind, "fibre of " + k, NONE, c -> c.fibre(k, -1));
            refuses(15, kind, "rank of " + k, NONE, c -> c.rank(k));
            refuses(16, kind, "cycles of " + k, NONE, c -> c.cycles(k, 0));
        }
        for (int i : new int[] {MIN, -2, 1024, MAX}) {
            refuses(13, kind, "fibre at " + i, NOT, c -> c.fibre(5, i));
            refuses(14, kind, "base at " + i, NOT, c -> c.base(i));
        }
        for (int what : new int[] {MIN, -1, 3, 9, 90, MAX}) {
            refuses(16, kind, "cycles of what " + what, NONE, c -> c.cycles(0, what));
        }
        refuses(16, kind, "cycles of what 49", NOT, c -> c.cycles(0, 49));
        refuses(16, kind, "cycles of what 89", NOT, c -> c.cycles(0, 89));
        for (int w : new int[] {MIN, -1, 2, MAX}) {
            refuses(17, kind, "degree of which " + w, NONE, c -> c.degree(0, 0, w));
        }
        for (int y : new int[] {MIN, -1, 31, MAX}) {
            refuses(17, kind, "degree at " + y, NONE, c -> c.degree(4, y, 0));
        }
        for (int n : new int[] {MIN, -1, 4, MAX}) {
            refuses(17, kind, "degree behind " + n, BAD, c -> c.degree(n, 30, 1));
        }
    }

    private static void refusedSets(int kind) {
        for (int o : new int[] {MIN, -1, 32, MAX}) {
            refuses(18, kind, "tell of x " + o, NONE, c -> c.tell(o, 0));
            refuses(18, kind, "tell of y " + o, NONE, c -> c.tell(0, o));
            refuses(19, kind, "forget of x " + o, NONE, c -> c.forget(o, 3));
            refuses(19, kind, "forget of y " + o, NONE, c -> c.forget(2, o));
        }
        refuses(19, kind, "forget of what is not in it", STATE, c -> c.forget(7, 7));
        for (int i : new int[] {MIN, -1, 12, MAX}) {
            refuses(20, kind, "told at " + i, NOT, c -> c.told(i));
        }
        for (int i : new int[] {MIN, -2, 12, MAX}) {
            refuses(21, kind, "moved at " + i, NOT, c -> c.moved(i));
        }
        for (int n : new int[] {MIN, -1, 41, MAX}) {
            refuses(23, kind, "grows of " + n, BAD, c -> c.grows(n));
        }
    }

    private static void refusedOddsAndPlans(int kind) {
        for (int o : new int[] {MIN, -1, 32, MAX}) {
            refuses(24, kind, "were in TABLE " + o, NO, c -> c.were(o, 0, 0, 0, 0, 0));
            refuses(24, kind, "were with i " + o, NO, c -> c.were(0, o, 0, 0, 0, 0));
            refuses(24, kind, "were with j " + o, NO, c -> c.were(0, 0, o, 0, 0, 0));
            refuses(24, kind, "were at x " + o, NO, c -> c.were(0, 0, 0, o, 0, 0));
            refuses(24, kind, "were at y " + o, NO, c -> c.were(0, 0, 0, 0, o, 0));
            refuses(24, kind, "were of k " + o, NO, c -> c.were(0, 0, 0, 0, 0, o));
            refuses(25, kind, "odds of k " + o, NO, c -> c.odds(o, 5, 3, 0));
            refuses(25, kind, "odds of m " + o, NO, c -> c.odds(5, 5, o, 0));
            refuses(25, kind, "odds of part " + o, NO, c -> c.odds(5, 5, 3, o));
        }
        for (int what : new int[] {MIN, -2, 4, MAX}) {
            refuses(26, kind, "plan of what " + what, NONE, c -> c.plan(what, 1));
        }
        for (int v : new int[] {MIN, -1, 10, MAX}) {
            refuses(26, kind, "plan of 0 and " + v, BAD, c -> c.plan(0, v));
            refuses(26, kind, "plan of 1 and " + v, BAD, c -> c.plan(1, v));
            refuses(26, kind, "plan of 2 and " + v, BAD, c -> c.plan(2, v));
        }
        refuses(26, kind, "plan of 0 and 0", BAD, c -> c.plan(0, 0));
        refuses(26, kind, "plan of 1 and 0", BAD, c -> c.plan(1, 0));
        refuses(26, kind, "plan of 2 and 2", BAD, c -> c.plan(2, 2));
    }

    private static void refusedLists(int kind) {
        for (int list : new int[] {MIN, -1, 4, MAX}) {
            refuses(30, kind, "judge of LIST " + list, NONE, c -> c.judge(list, 0, 0));
            refuses(31, kind, "list of LIST " + list, NONE, c -> c.list(list, 3));
            refuses(31, kind, "list of LIST " + list + ", BAD, too", NONE, c -> c.list(list, 13));
            refuses(31, kind, "list of LIST " + list + ", BELOW, too", NONE, c -> c.list(list, -1));
            refuses(32, kind, "put in LIST " + list, NONE, c -> c.put(list, 0, 9));
            refuses(33, kind, "get of LIST " + list, NO, c -> c.get(list, 0));
            refuses(30, kind, "judge from x " + (list == 4 ? 32 : list), NONE, c -> c.judge(0, list == 4 ? 32 : list, 0));
            refuses(30, kind, "judge from y " + (list == 4 ? 32 : list), NONE, c -> c.judge(3, 0, list == 4 ? 32 : list));
        }
        for (int list = 0; list < 4; list++) {
            int each = list;
            refuses(31, kind, "list of 13 ints", BAD, c -> c.list(each, 13));
            refuses(31, kind, "list of the most ints", BAD, c -> c.list(each, MAX));
            refuses(31, kind, "list of -1 ints", BELOW, c -> c.list(each, -1));
            refuses(31, kind, "list of the least ints", BELOW, c -> c.list(each, MIN));
            boolean held = kind == ALL || kind == SOME && list < 3;
            for (int i : new int[] {MIN, -1, 12, MAX}) {
                refuses(32, kind, "put at " + i, held ? BEYOND : NOTHING, c -> c.put(each, i, 9));
                refuses(33, kind, "get at " + i, NO, c -> c.get(each, i));
            }
        }
    }

    // ---- what is refused by what is held

    private static void refusedByWhatIsHeld() {
        refuses(35, NEW, "undo", STATE, KeptCurves::undo);
        refuses(7, NEW, "kept", VOID, c -> c.kept(0, 0));
        refuses(8, NEW, "swap", LOST, c -> c.swap(1, 31, 31));
        refuses(11, NEW, "behind", LOST, c -> c.behind(31, 0, -99));
        refuses(12, NEW, "period", LOST, c -> c.period(0, 31));
        refuses(17, NEW, "degree", LOST, c -> c.degree(3, 0, 0));
        refuses(5, NEW, "table, nothing on THE TAPE", -100, c -> c.table(0));
        refuses(7, SOME, "kept at BASE", VOID, c -> c.kept(2, 25));
        refuses(8, SOME, "swap at BASE", LOST, c -> c.swap(0, 2, 25));
        refuses(11, SOME, "behind, the second SWAP LOST", LOST, c -> c.behind(0, 25, 1));
        refuses(17, SOME, "degree at a PINCHED y", LOST, c -> c.degree(1, 25, 0));
        refuses(18, SOME, "tell of what is in it", STATE, c -> c.tell(2, 3));
        refuses(30, SOME, "judge of LIST 3", NOTHING, c -> c.judge(3, 0, 0));
        refuses(32, SOME, "put in LIST 3", NOTHING, c -> c.put(3, 0, 1));
        refuses(32, SOME, "put in LIST 1", BEYOND, c -> c.put(1, 0, 1));
        refuses(32, SOME, "put in LIST 2", BEYOND, c -> c.put(2, 2, 1));
        refuses(33, SOME, "get of LIST 3", NO, c -> c.get(3, 0));
        refuses(4, ALL, "feed of a 61st byte", FULL, c -> c.feed('x'));
        refuses(4, ALL, "feed of a 61st byte, BAD, too", BAD, c -> c.feed(128));
        refuses(18, ALL, "tell of a 13th SPOT", FULL, c -> c.tell(7, 7));
        refuses(18, ALL, "tell of the first", STATE, c -> c.tell(31, 0));
        refuses(18, ALL, "tell of the last", STATE, c -> c.tell(20, 11));
        refuses(26, ALL, "plan of a 9th ROW", FULL, c -> c.plan(3, 0));
        refuses(26, ALL, "plan of a 9th ROW", FULL, c -> c.plan(0, 9));
        refuses(26, ALL, "plan of a 9th ROW, BAD, too", BAD, c -> c.plan(1, 10));
    }

    /** A FAULT changes nothing but THE TAPE, that is empty behind it. */
    private static void faults() {
        for (int kind = 0; kind < KINDS; kind++) {
            for (String text : new String[] {"", "0", "31", "7+", "5xxx", "5yx", "+", "30xxyy+1xxyy+2x+2x+3y+4+", "9xy+30a"}) {
                for (int t = 0; t < 2; t++) {
                    KeptCurves curves = made(kind), other = made(kind);
                    emptyTape(curves);
                    emptyTape(other);
                    feedAll(curves, text);
                    feedAll(other, text);
                    int got = curves.table(t);
                    if (got > -100) {
                        fail(5, "'" + text + "' with " + KIND_NAMES[kind] + ": answered " + got + ", due is a FAULT");
                    }
                    if (curves.count(2) != 0) {
                        fail(5, "'" + text + "' with " + KIND_NAMES[kind] + ": THE TAPE is not empty behind the FAULT");
                    }
                    if (!tells(curves, false).equals(tells(other, false))) {
                        fail(5, "'" + text + "' with " + KIND_NAMES[kind] + ": a FAULT changes what the object tells");
                    }
                }
            }
        }
    }

    /** Both objects get these calls; THE TAPE of 60 bytes has no place for a byte that makes a FAULT. */
    private static void emptyTape(KeptCurves curves) {
        if (curves.count(2) > 0 && curves.count(2) < 60) {
            curves.feed('!');
        }
        curves.table(1);
    }

    // ---- what is asked

    private static void asked(int kind) {
        asks(3, kind, "of", c -> c.of(1, 2, 2));
        asks(6, kind, "value", c -> c.value(0, 31, 31) + c.value(1, 3, 3));
        asks(7, kind, "kept", c -> c.kept(31, 31) + c.kept(2, 3));
        asks(8, kind, "swap", c -> c.swap(0, 2, 3) + c.swap(1, 31, 31));
        asks(9, kind, "row", c -> c.row(0, 31, 2) + c.row(1, 0, 0));
        asks(10, kind, "pinched", c -> c.pinched(0) + c.pinched(1));
        asks(11, kind, "behind", c -> c.behind(2, 3, 99) + c.behind(2, 3, -99) + c.behind(2, 3, 0));
        asks(12, kind, "period", c -> c.period(2, 3) + c.period(31, 31));
        asks(13, kind, "fibre", c -> c.fibre(31, -1) + c.fibre(0, 0));
        asks(14, kind, "base", c -> c.base(-1) + c.base(0));
        asks(15, kind, "rank", c -> c.rank(0) + c.rank(31));
        asks(16, kind, "cycles", c -> c.cycles(0, 0) + c.cycles(31, 2) + c.cycles(0, 10) + c.cycles(31, 50));
        asks(17, kind, "degree", c -> c.degree(0, 0, 0) + c.degree(3, 30, 1));
        asks(20, kind, "told", c -> c.told(0) + c.told(11));
        asks(21, kind, "moved", c -> c.moved(-1) + c.moved(0));
        asks(23, kind, "grows", c -> c.grows(0) + c.grows(40));
        asks(24, kind, "were", c -> c.were(0, 2, 2, 31, 31, 31) + c.were(1, 0, 0, 2, 3, 5));
        asks(25, kind, "odds", c -> c.odds(5, MAX, 30, 0) + c.odds(31, 0, 1, 1));
        asks(27, kind, "ends", c -> c.ends(2, 3) + c.ends(31, 31) + c.ends(0, 25));
        asks(29, kind, "paper", c -> c.paper(0) + c.paper(43));
        asks(30, kind, "judge", c -> c.judge(0, 2, 3) + c.judge(3, 31, 31));
        asks(33, kind, "get", c -> c.get(0, 0) + c.get(3, 11));
        asks(36, kind, "count", c -> c.count(0) + c.count(1) + c.count(2) + c.count(3) + c.count(4));
    }

    /** write changes THE PAPER alone: with the one that was there written again, all is as it was. */
    private static void writing() {
        asks(28, SOME, "write(0), and write(1) again", c -> c.write(0) + c.write(1));
        asks(28, ALL, "write(1), and write(0) again", c -> c.write(1) + c.write(0));
        asks(28, NEW, "write(0) and write(1) of no numbers", c -> c.write(0) + c.write(1));
    }
}
