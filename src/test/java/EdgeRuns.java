/**
 * The boundary cases, promise by promise, each with the words of the document that name it:
 * the least and the greatest that is allowed, the next ones, nothing held, all full, ints that wrap around.
 * That refused calls change nothing is RefusalRuns' part.
 */
public final class EdgeRuns {
    private static final long NO = Long.MIN_VALUE;
    private static final int MIN = Integer.MIN_VALUE, MAX = Integer.MAX_VALUE;
    private static final int NONE = -1, BAD = -2, STATE = -3, FULL = -4, NOT = -5, VOID = -6, LOST = -7;
    private static final int NOTHING = -11, BEYOND = -13, BELOW = -14;
    private static final int ENDLESS = 31;
    /** What is no COORDINATE, no TABLE (nor which, nor part), no power, no LIST. */
    private static final int[] NO_COORDINATE = {MIN, -32, -1, 32, 33, 63, 1024, MAX};
    private static final int[] NO_TABLE = {MIN, -1, 2, 3, MAX};
    private static final int[] NO_POWER = {MIN, -3, -1, 3, 4, MAX};
    private static final int[] NO_LIST = {MIN, -1, 4, 5, MAX};

    private static final int[] ASKED = new int[37];
    private static int wrong = 0;

    private static void due(int promise, String words, long got, long want) {
        ASKED[promise]++;
        if (got != want) {
            wrong++;
            System.out.println("promise " + promise + ", " + words + ": answered " + got + ", due is " + want);
        }
    }

    public static void main(String[] args) {
        newObject();
        twoObjects();
        numbers();
        places();
        tapeLength();
        tapeBytes();
        tapeTexts();
        tapeNumbers();
        tapeTells();
        valueOfOneNumber();
        noSpots();
        quotients();
        rowsOfTwoNumbers();
        noRows();
        swaps();
        swapsWithoutRows();
        swapsOnEndlessLines();
        pinchedLines();
        behindEdges();
        stepsThatAreLost();
        periods();
        fibres();
        bases();
        ranks();
        cyclesOfAFibre();
        cyclesAsked();
        degrees();
        degreesLost();
        degreesAsked();
        setFull();
        setOrder();
        movedEdges();
        growsEdges();
        wereEdges();
        oddsEdges();
        oddsWrap();
        planEdges();
        endsEdges();
        endsLost();
        writtenEdges();
        paperEdges();
        judgedEdges();
        listSizes();
        listPlaces();
        imageEdges();
        imageHolds();
        countEdges();
        for (int promise = 1; promise <= 36; promise++) {
            due(promise, "a case that names it", ASKED[promise] > 0 ? 1 : 0, 1);
        }
        System.out.println(wrong == 0 ? "EdgeRuns: all answers are as due" : "EdgeRuns: " + wrong + " are not as due");
        if (wrong != 0) {
            System.exit(1);
        }
    }

    // ---- tables that the cases need

    private static int read(KeptCurves curves, int table, String text) {
        for (int i = 0; i < text.length(); i++) {
            curves.feed(text.charAt(i));
        }
        return curves.table(table);
    }

    private static KeptCurves of(String above, String below) {
        KeptCurves curves = new KeptCurves();
        due(5, "TABLE 0 from " + above, read(curves, 0, above), above.split("\\+").length);
        due(5, "TABLE 1 from " + below, read(curves, 1, below), below.split("\\+").length);
        return curves;
    }

    /** No line is PINCHED, nothing gets LOST, BASE has no SPOT; its longest PERIOD is 43. */
    private static KeptCurves whole() {
        return of("30+28xxyy+8xyy+14xy+16xx+21yy", "20xy+10y+2xx+10yy+1x+14");
    }

    /** The spots that STEPS bring (0, 11) to in whole(), one after the other; the last one comes back to it. */
    private static final int[] ROUND = {
        11, 247, 894, 757, 708, 915, 360, 325, 646, 209, 39, 954, 825, 608, 502, 86, 480, 633, 826, 935, 49, 198,
        645, 328, 371, 900, 725, 766, 887, 235, 18, 783, 316, 187, 105, 675, 834, 835, 681, 123, 188, 303, 786
    };

    /** From (0, 22) on 42 STEPS go, ending at (0, 31), the one SPOT of BASE; the 43rd is LOST. */
    private static KeptCurves losing() {
        return of("29xxyy+14y+21", "18xxyy+14xx+15xy+19y+17");
    }

    private static final int[] AWAY = {
        22, 902, 525, 761, 847, 818, 957, 681, 436, 487, 584, 352, 654, 545, 875, 250, 997, 708, 98, 298, 981, 789,
        970, 290, 100, 709, 1018, 235, 865, 558, 640, 360, 583, 500, 425, 701, 946, 815, 857, 749, 518, 918, 31
    };

    /** BASE has the SPOTS 89 and 666. */
    private static KeptCurves rich() {
        return of("3xxyy+2x+1y+4", "1xx+5yy+2");
    }

    /** KEPT is 1 at each of the 1024 SPOTS. */
    private static KeptCurves ones() {
        return of("1xxyy+1xx+1yy+1", "1xxyy+1xx+1yy+1");
    }

    // ---- promise 1

    private static void newObject() {
        KeptCurves curves = new KeptCurves();
        for (int place = 0; place < 18; place++) {
            due(1, "No numbers but 0 in TABLES", curves.of(place / 9, place / 3 % 3, place % 3), 0);
        }
        for (int what = 0; what <= 4; what++) {
            due(36, "nothing held at first", curves.count(what), 0);
        }
        due(29, "THE PAPER holds nothing at first", curves.paper(0), NONE);
        due(20, "THE SET: none at first", curves.told(0), NOT);
        due(21, "MOVED of nothing", curves.moved(-1), 0);
        due(21, "MOVED of nothing", curves.moved(0), NOT);
        due(22, "MOVED of nothing", curves.move(), 0);
        due(23, "GROWS of nothing", curves.grows(0), 0);
        due(23, "GROWS of nothing", curves.grows(40), 0);
        due(27, "ENDS behind no ROW", curves.ends(0, 0), 0);
        due(27, "ENDS behind no ROW", curves.ends(31, 31), 1023);
        due(28, "WRITTEN: if there are none, nothing", curves.write(0), 0);
        due(28, "WRITTEN: if there are none, nothing", curves.write(1), 0);
        due(35, "STATE: there is none", curves.undo(), STATE);
        for (int list = 0; list <= 3; list++) {
            due(33, "LISTS hold nothing at first", curves.get(list, 0), NO);
            due(32, "NOTHING: none is held", curves.put(list, 0, 0), NOTHING);
            due(30, "NOTHING: none is held", curves.judge(list, 0, 0), NOTHING);
        }
        due(5, "the length, if it ends too early", curves.table(0), -100);
    }

    /** What one object is told, none other tells: neither one made behind it, nor one made ahead. */
    private static void twoObjects() {
        KeptCurves ahead = whole();
        due(12, "an object ahead", ahead.period(0, 11), 43);
        KeptCurves full = rich();
        full.tell(2, 0);
        full.plan(3, 0);
        full.list(0, 1);
        full.write(0);
        full.feed('1');
        full.image();
        newObject();
        due(11, "the object ahead still has its own TABLES", ahead.behind(0, 11, 1), ROUND[1]);
        due(16, "the object ahead still has its own TABLES", ahead.cycles(8, 11), 30);
        due(14, "the one behind has its own, too", full.base(1), 666);
        for (int what = 0; what <= 4; what++) {
            int held = what == 0 ? 1 : what == 1 ? 7 : what == 2 ? 1 : what == 3 ? 13 : 1;
            due(36, "what the one behind holds", full.count(what), held);
            due(36, "what the one ahead holds", ahead.count(what), what == 1 ? 12 : 0);
        }
        due(35, "THE IMAGE of the one behind", full.undo(), 1);
        due(35, "the one ahead has none", ahead.undo(), STATE);
        due(32, "the LIST of the one behind", full.put(0, 0, 5), 1);
        due(32, "the one ahead has none", ahead.put(0, 0, 5), NOTHING);
        due(34, "an IMAGE of the one ahead, that of the one behind is another", ahead.image(), 0);
        due(35, "THE IMAGE of the one behind", full.undo(), 1);
        due(36, "its numbers", full.count(1), 7);
        due(36, "its ROWS", full.count(4), 1);
        due(20, "its SPOT", full.told(0), 64);
    }

    // ---- promises 2, 3

    private static void numbers() {
        for (int place = 0; place < 18; place++) {
            int t = place / 9, i = place / 3 % 3, j = place % 3;
            KeptCurves curves = new KeptCurves();
            due(2, "what it was, 0 at first", curves.set(t, i, j, 30), 0);
            due(3, "the greatest number", curves.of(t, i, j), 30);
            due(2, "a number above 30", curves.set(t, i, j, 31), BAD);
            due(2, "a number below 0", curves.set(t, i, j, -1), BAD);
            due(2, "a number far above", curves.set(t, i, j, MAX), BAD);
            due(2, "a number far below", curves.set(t, i, j, MIN), BAD);
            due(3, "what is answered BAD changes nothing", curves.of(t, i, j), 30);
            for (int other = 0; other < 18; other++) {
                due(2, "the other numbers stay", curves.of(other / 9, other / 3 % 3, other % 3), other == place ? 30 : 0);
            }
            due(2, "what it was, the same", curves.set(t, i, j, 30), 30);
            due(2, "the least number", curves.set(t, i, j, 0), 30);
            due(3, "the least number", curves.of(t, i, j), 0);
            due(2, "what it was", curves.set(t, i, j, 1), 0);
            due(3, "one", curves.of(t, i, j), 1);
        }
    }

    /** All numbers are unlike, so that a place that is taken for another one shows. */
    private static void places() {
        KeptCurves curves = new KeptCurves();
        for (int place = 0; place < 18; place++) {
            curves.set(place / 9, place / 3 % 3, place % 3, place + 1);
        }
        for (int t : NO_TABLE) {
            due(2, "NONE: table", curves.set(t, 0, 0, 29), NONE);
            due(2, "NONE ahead of BAD", curves.set(t, 2, 2, 31), NONE);
            due(3, "NONE: table", curves.of(t, 0, 0), NONE);
            due(3, "NONE: table", curves.of(t, 2, 2), NONE);
        }
        for (int t = 0; t <= 1; t++) {
            for (int p : NO_POWER) {
                due(2, "NONE: i", curves.set(t, p, 0, 29), NONE);
                due(2, "NONE: i", curves.set(t, p, 2, 29), NONE);
                due(2, "NONE: j", curves.set(t, 0, p, 29), NONE);
                due(2, "NONE: j", curves.set(t, 2, p, 29), NONE);
                due(2, "NONE ahead of BAD", curves.set(t, p, 1, -1), NONE);
                due(2, "NONE ahead of BAD", curves.set(t, 1, p, 31), NONE);
                due(3, "NONE: i", curves.of(t, p, 0), NONE);
                due(3, "NONE: i", curves.of(t, p, 2), NONE);
                due(3, "NONE: j", curves.of(t, 0, p), NONE);
                due(3, "NONE: j", curves.of(t, 2, p), NONE);
            }
        }
        for (int place = 0; place < 18; place++) {
            due(2, "what is answered NONE changes nothing", curves.of(place / 9, place / 3 % 3, place % 3), place + 1);
        }
    }

    // ---- promises 4, 5

    private static void tapeLength() {
        KeptCurves curves = new KeptCurves();
        for (int letter : new int[] {MIN, -1, 0, 128, 129, 255, 256, 256 + '1', 65536 + '1', MAX}) {
            due(4, "no byte of 1 .. 127: " + letter, curves.feed(letter), BAD);
            due(36, "what is answered BAD changes nothing", curves.count(2), 0);
        }
        due(4, "the greatest byte", curves.feed(127), 1);
        due(4, "the least byte", curves.feed(1), 2);
        due(5, "the first byte with which no such text goes on", curves.table(0), -100);
        due(36, "THE TAPE is empty behind each call that reads it", curves.count(2), 0);
        for (int n = 1; n <= 59; n++) {
            due(4, "how many it has", curves.feed(n % 2 == 1 ? '1' : '+'), n);
        }
        due(4, "the 60th byte", curves.feed('2'), 60);
        due(4, "the 61st byte", curves.feed('x'), FULL);
        due(4, "BAD ahead of FULL", curves.feed(0), BAD);
        due(4, "BAD ahead of FULL", curves.feed(128), BAD);
        due(36, "60 bytes at most", curves.count(2), 60);
        due(5, "NONE: table (THE TAPE stays)", curves.table(2), NONE);
        due(4, "the 61st byte", curves.feed('x'), FULL);
        due(5, "TERMS of 60 bytes", curves.table(0), 30);
        due(3, "29 ones and a 12, modulo 31", curves.of(0, 0, 0), 10);
        due(4, "the first byte again", curves.feed('7'), 1);
        due(5, "one TERM", curves.table(0), 1);
        for (int n = 1; n <= 60; n++) {
            curves.feed(n % 2 == 1 ? '1' : '+');
        }
        due(5, "the length, if it ends too early: 60 bytes", curves.table(0), -160);
        due(3, "a FAULT changes nothing", curves.of(0, 0, 0), 7);
        due(5, "60 bytes, the last one with which no text goes on",
            read(curves, 0, "10xxyy+10xxyy+10xxyy+10xxyy+10xxyy+10xxyy+10xxyy+10xxyy+10x0"), -159);
        due(5, "60 bytes of 9 TERMS",
            read(curves, 0, "10xxyy+10xxyy+10xxyy+10xxyy+10xxyy+10xxyy+10xxyy+10xxyy+10xy"), 9);
        due(3, "80, modulo 31", curves.of(0, 2, 2), 18);
    }

    /** Which bytes go on behind a text, of all 127. */
    private static void tapeBytes() {
        goesOn("", "123456789");
        goesOn("1", "0123456789xy+");
        goesOn("2", "0123456789xy+");
        goesOn("3", "0xy+");
        goesOn("4", "xy+");
        goesOn("9", "xy+");
        goesOn("10", "xy+");
        goesOn("29", "xy+");
        goesOn("30", "xy+");
        goesOn("1x", "xy+");
        goesOn("1xx", "y+");
        goesOn("1y", "y+");
        goesOn("1yy", "+");
        goesOn("1xy", "y+");
        goesOn("1xxy", "y+");
        goesOn("1xxyy", "+");
        goesOn("1+", "123456789");
        goesOn("1+3", "0xy+");
        goesOn("1+4", "xy+");
    }

    private static void goesOn(String text, String with) {
        KeptCurves curves = new KeptCurves();
        int calls = 0;
        for (int letter = 1; letter <= 127; letter++) {
            if (calls > 480) {
                curves = new KeptCurves();
                calls = 0;
            }
            boolean goes = with.indexOf(letter) >= 0;
            boolean ends = goes && letter != '+';
            int want = ends ? (text + (char) letter).split("\\+").length : -100 - (goes ? text.length() + 1 : text.length());
            due(5, "the text '" + text + "' and byte " + letter, read(curves, 1, text + (char) letter), want);
            calls += text.length() + 2;
        }
    }

    /** All texts of up to four of these bytes, as a reading of its own tells them. */
    private static void tapeTexts() {
        String bytes = "0139xy+";
        KeptCurves curves = new KeptCurves();
        int calls = 0;
        for (int length = 0, texts = 1; length <= 4; length++, texts *= 7) {
            for (int n = 0; n < texts; n++) {
                StringBuilder text = new StringBuilder();
                for (int i = 0, rest = n; i < length; i++, rest /= 7) {
                    text.append(bytes.charAt(rest % 7));
                }
                if (calls > 500) {
                    curves = new KeptCurves();
                    calls = 0;
                }
                due(5, "TERMS or FAULT of '" + text + "'", read(curves, n % 2, text.toString()), told(text.toString()));
                calls += length + 1;
            }
        }
    }

    /** What may come next: 0 a number, 1 its second figure (any), 2 (a 0 alone), 3 x, 4 x or y, 5 y, 6 y once more, 7 only +. */
    private static int told(String text) {
        int state = 0, terms = 1;
        for (int i = 0; i < text.length(); i++) {
            int next = behind(state, text.charAt(i));
            if (next < 0) {
                return -100 - i;
            }
            terms += text.charAt(i) == '+' ? 1 : 0;
            state = next;
        }
        return state == 0 ? -100 - text.length() : terms;
    }

    private static int behind(int state, char letter) {
        if (state == 0) {
            return letter == '1' || letter == '2' ? 1 : letter == '3' ? 2 : letter >= '4' && letter <= '9' ? 3 : -1;
        }
        if (letter == '+') {
            return 0;
        }
        if (letter >= '0' && letter <= '9') {
            return state == 1 || state == 2 && letter == '0' ? 3 : -1;
        }
        if (letter == 'x') {
            return state <= 3 ? 4 : state == 4 ? 5 : -1;
        }
        return letter != 'y' ? -1 : state <= 5 ? 6 : state == 6 ? 7 : -1;
    }

    private static void tapeNumbers() {
        KeptCurves curves = new KeptCurves();
        for (int number = 1; number <= 30; number++) {
            due(5, "a number of 1 .. 30", read(curves, 0, number + "xy"), 1);
            due(3, "the number told", curves.of(0, 1, 1), number);
        }
        for (int number = 31; number <= 99; number++) {
            due(5, "of a number above 30 its second figure: " + number, read(curves, 0, String.valueOf(number)), -101);
        }
        due(3, "a FAULT changes nothing", curves.of(0, 1, 1), 30);
        due(5, "its second figure, in a later TERM", read(curves, 0, "30xxyy+31"), -108);
        due(5, "a third figure", read(curves, 0, "100"), -102);
        due(5, "a third figure", read(curves, 0, "300"), -102);
        due(5, "a 0 that stands first", read(curves, 0, "0"), -100);
        due(5, "a 0 that stands first", read(curves, 0, "07"), -100);
        due(5, "a 0 that stands first, in a later TERM", read(curves, 0, "7+0"), -102);
        due(5, "it ends too early", read(curves, 0, ""), -100);
        due(5, "it ends too early", read(curves, 0, "7+"), -102);
        due(5, "it ends too early", read(curves, 0, "30xxyy+"), -107);
        due(5, "+ between, not ahead", read(curves, 0, "+7"), -100);
        due(5, "x ahead of y", read(curves, 0, "7yx"), -102);
        due(3, "a FAULT changes nothing", curves.of(0, 1, 1), 30);
        due(36, "a FAULT changes nothing", curves.count(1), 1);
    }

    private static void tapeTells() {
        KeptCurves curves = new KeptCurves();
        for (int place = 0; place < 18; place++) {
            curves.set(place / 9, place / 3 % 3, place % 3, place + 1);
        }
        due(5, "those told again, too", read(curves, 1, "30xy+30xy+1xy"), 3);
        due(3, "of a power told again the numbers are added", curves.of(1, 1, 1), 30);
        due(36, "all others are 0, the other TABLE stays", curves.count(1), 10);
        due(5, "two that make 31", read(curves, 1, "30xx+1xx"), 2);
        due(3, "two that make 31", curves.of(1, 2, 0), 0);
        due(36, "all others are 0", curves.count(1), 9);
        for (int t : NO_TABLE) {
            curves.feed('5');
            due(5, "NONE: table", curves.table(t), NONE);
        }
        due(36, "THE TAPE stays", curves.count(2), NO_TABLE.length);
        due(5, "THE TAPE stays", curves.table(0), -101);
        due(36, "THE TAPE is empty behind a FAULT", curves.count(2), 0);
        due(5, "the empty TAPE", curves.table(0), -100);
        for (int place = 0; place < 9; place++) {
            due(5, "a FAULT changes nothing", curves.of(0, place / 3, place % 3), place + 1);
        }
        for (int i = 0; i <= 2; i++) {
            for (int j = 0; j <= 2; j++) {
                due(5, "each power", read(curves, 0, "17" + "xx".substring(0, i) + "yy".substring(0, j)), 1);
                due(3, "each power", curves.of(0, i, j), 17);
                due(36, "all others are 0", curves.count(1), 1);
            }
        }
    }

    // ---- promises 6, 7

    private static int power(int c, int n) {
        return c == ENDLESS ? (n == 2 ? 1 : 0) : n == 0 ? 1 : n == 1 ? c : c * c % 31;
    }

    /** A TABLE with one number alone, at all the edges of a SPOT. */
    private static void valueOfOneNumber() {
        int[] edges = {0, 1, 2, 30, ENDLESS};
        for (int place = 0; place < 18; place++) {
            int t = place / 9, i = place / 3 % 3, j = place % 3;
            KeptCurves curves = new KeptCurves();
            curves.set(t, i, j, 7);
            for (int x : edges) {
                for (int y : edges) {
                    due(6, "VALUE of 7 at " + i + ", " + j + " at the SPOT " + x + ", " + y, curves.value(t, x, y),
                        7 * power(x, i) * power(y, j) % 31);
                    due(6, "VALUE of the other TABLE", curves.value(1 - t, x, y), 0);
                }
            }
        }
        due(6, "for an ENDLESS x just those with i 2", of("1+2x+3xx+4xxy+6xxyy", "1").value(0, ENDLESS, 2), 4);
        due(6, "for an ENDLESS y just those with j 2", of("1+2y+3yy+4xyy+6xxyy", "1").value(0, 2, ENDLESS), 4);
        due(6, "for both just the one with 2 and 2", of("1+2yy+3xx+4xyy+5xxyy", "1").value(0, ENDLESS, ENDLESS), 5);
    }

    private static void noSpots() {
        KeptCurves curves = whole();
        for (int c : NO_COORDINATE) {
            due(6, "NONE: x", curves.value(0, c, 0), NONE);
            due(6, "NONE: y", curves.value(1, 31, c), NONE);
            due(7, "NONE: x", curves.kept(c, 0), NONE);
            due(7, "NONE: y", curves.kept(31, c), NONE);
            due(8, "NONE: x", curves.swap(0, c, 0), NONE);
            due(8, "NONE: y", curves.swap(0, 0, c), NONE);
            due(8, "NONE: x", curves.swap(1, c, 31), NONE);
            due(8, "NONE: y", curves.swap(1, 31, c), NONE);
            due(11, "NONE: x", curves.behind(c, 0, 0), NONE);
            due(11, "NONE: y", curves.behind(31, c, 1), NONE);
            due(12, "NONE: x", curves.period(c, 31), NONE);
            due(12, "NONE: y", curves.period(0, c), NONE);
            due(18, "NONE: x", curves.tell(c, 31), NONE);
            due(18, "NONE: y", curves.tell(0, c), NONE);
            due(19, "NONE: x", curves.forget(c, 31), NONE);
            due(19, "NONE: y", curves.forget(0, c), NONE);
            due(27, "NONE: x", curves.ends(c, 31), NONE);
            due(27, "NONE: y", curves.ends(0, c), NONE);
            due(30, "NONE: x", curves.judge(0, c, 31), NONE);
            due(30, "NONE: y", curves.judge(3, 0, c), NONE);
        }
        for (int t : NO_TABLE) {
            due(6, "NONE: table", curves.value(t, 0, 0), NONE);
            due(6, "NONE: table", curves.value(t, 31, 31), NONE);
            due(8, "NONE: which", curves.swap(t, 0, 0), NONE);
            due(8, "NONE: which", curves.swap(t, 31, 31), NONE);
        }
    }

    /** KEPT at (0, 0) is u by v, for all u and v. */
    private static void quotients() {
        for (int v = 0; v <= 30; v++) {
            KeptCurves curves = new KeptCurves();
            curves.set(1, 0, 0, v);
            for (int u = 0; u <= 30; u++) {
                curves.set(0, 0, 0, u);
                int kept = curves.kept(0, 0);
                if (v == 0) {
                    due(7, "ENDLESS, if v is 0, and u is not; VOID, if both are", kept, u == 0 ? VOID : ENDLESS);
                } else {
                    due(7, "u by v is a number", kept >= 0 && kept <= 30 ? 1 : 0, 1);
                    due(7, "u is " + v + " times " + kept, kept * v % 31, u);
                }
            }
            due(7, "VOID at an ENDLESS x, where no number counts", curves.kept(ENDLESS, 0), VOID);
            due(7, "VOID at an ENDLESS y, where no number counts", curves.kept(0, ENDLESS), VOID);
        }
        KeptCurves ends = of("3xxyy", "6xxyy+1");
        due(7, "KEPT at two ENDLESS COORDINATES", ends.kept(ENDLESS, ENDLESS), 16);
        due(7, "KEPT at an ENDLESS x", ends.kept(ENDLESS, 30), 16);
        due(7, "VOID at an ENDLESS x", ends.kept(ENDLESS, 0), VOID);
        due(7, "0 at (0, 0)", ends.kept(0, 0), 0);
        due(7, "ENDLESS at two ENDLESS COORDINATES", of("1xxyy", "1").kept(ENDLESS, ENDLESS), ENDLESS);
        due(7, "VOID ahead of all: no numbers", new KeptCurves().kept(31, 31), VOID);
    }

    // ---- promises 8, 9, 10

    /** 3 for (i, j) in TABLE 0 and 5 for (k, l) in TABLE 1: p, q or r is 15 times a power of c, or less than that, or 0. */
    private static void rowsOfTwoNumbers() {
        int[] edges = {0, 1, 2, 30, ENDLESS};
        for (int n = 0; n < 81; n++) {
            int i = n / 27, j = n / 9 % 3, k = n / 3 % 3, l = n % 3;
            for (int which = 0; which <= 1; which++) {
                KeptCurves curves = new KeptCurves();
                curves.set(0, which == 0 ? i : j, which == 0 ? j : i, 3);
                curves.set(1, which == 0 ? k : l, which == 0 ? l : k, 5);
                for (int c : edges) {
                    int product = 15 * power(c, j) * power(c, l) % 31;
                    int less = (31 - product) % 31;
                    due(9, "p is a2 b1 less a1 b2", curves.row(which, c, 0), i == 2 && k == 1 ? product : i == 1 && k == 2 ? less : 0);
                    due(9, "q is a2 b0 less a0 b2", curves.row(which, c, 1), i == 2 && k == 0 ? product : i == 0 && k == 2 ? less : 0);
                    due(9, "r is a1 b0 less a0 b1", curves.row(which, c, 2), i == 1 && k == 0 ? product : i == 0 && k == 1 ? less : 0);
                }
            }
        }
    }

    private static void noRows() {
        KeptCurves curves = whole();
        for (int w : NO_TABLE) {
            due(9, "NONE: which", curves.row(w, 0, 0), NONE);
            due(9, "NONE: which", curves.row(w, 31, 2), NONE);
            due(10, "NO: which", curves.pinched(w), NO);
        }
        for (int c : NO_COORDINATE) {
            due(9, "NONE: c", curves.row(0, c, 0), NONE);
            due(9, "NONE: c", curves.row(1, c, 2), NONE);
        }
        for (int what : NO_POWER) {
            due(9, "NONE: what", curves.row(0, 0, what), NONE);
            due(9, "NONE: what", curves.row(1, 31, what), NONE);
        }
        due(9, "what 0 at the least c", of("1xx", "1x").row(0, 0, 0), 1);
        due(9, "what 2 at the greatest c", of("1xxyy", "1xxy").row(1, ENDLESS, 0), 1);
    }

    /** The new x for x 0, 1, 2, 30, ENDLESS, at y 3; and the new y at x 3, with x and y changing their parts. */
    private static void swapsTo(String above, String below, int... want) {
        int[] from = {0, 1, 2, 30, ENDLESS};
        KeptCurves ofX = of(above, below), ofY = of(above.replace('x', 'y'), below.replace('x', 'y'));
        for (int n = 0; n < from.length; n++) {
            due(8, "SWAP of x " + from[n] + " for " + above + " by " + below, ofX.swap(0, from[n], 3), want[n]);
            due(8, "likewise of y", ofY.swap(1, 3, from[n]), want[n]);
        }
    }

    private static void swaps() {
        // p 0, q 1, r 0: u is 0 less x, v is 1; for an ENDLESS x u is 0 less 1, v is 0
        swapsTo("1xx", "1", 0, 30, 29, 1, ENDLESS);
        // p 1, q 0, r 0: u is 0, v is x; for an ENDLESS x u is 0, v is 1
        swapsTo("1xx", "1x", LOST, 0, 0, 0, 0);
        // p 0, q 0, r 1: u is 0 less 1, v is 0; for an ENDLESS x both are 0
        swapsTo("1x", "1", ENDLESS, ENDLESS, ENDLESS, ENDLESS, LOST);
        // p 1, q 0, r 0 less 1: u is 1, v is x
        swapsTo("1xx+1", "1x", ENDLESS, 1, 16, 30, 0);
        // p 0, q 1, r 1: u is 0 less x and 1, v is 1
        swapsTo("1xx+1x", "1", 30, 29, 28, 0, ENDLESS);
        // p 28, q 29, r 0: u is 2 x, v is 0 less 3 x and 2; 2 by 28 is 20
        swapsTo("1xx+3x+2", "1xx", 0, 12, 15, 29, 20);
        // p, q and r are 0
        swapsTo("2xx+4", "1xx+2", LOST, LOST, LOST, LOST, LOST);
    }

    private static void swapsWithoutRows() {
        KeptCurves ofY = of("1yy+1", "1y"), ofX = of("1xx+1", "1x");
        for (int c : new int[] {0, 1, 2, 30, ENDLESS}) {
            due(8, "LOST: p, q and r of x are 0 where only numbers with i 0 are", ofY.swap(0, c, 3), LOST);
            due(8, "LOST: p, q and r of y are 0 where only numbers with j 0 are", ofX.swap(1, 3, c), LOST);
        }
    }

    private static void swapsOnEndlessLines() {
        KeptCurves curves = of("1xxyy", "1yy");
        due(8, "SWAP of x at an ENDLESS y", curves.swap(0, 5, ENDLESS), 26);
        due(8, "SWAP of an ENDLESS x at an ENDLESS y", curves.swap(0, ENDLESS, ENDLESS), ENDLESS);
        due(8, "SWAP of x at y 0, where all is 0", curves.swap(0, 5, 0), LOST);
        due(8, "SWAP of x at the greatest number", curves.swap(0, 30, 30), 1);
        KeptCurves turned = of("1xxyy", "1xx");
        due(8, "SWAP of y at an ENDLESS x", turned.swap(1, ENDLESS, 5), 26);
        due(8, "SWAP of an ENDLESS y at an ENDLESS x", turned.swap(1, ENDLESS, ENDLESS), ENDLESS);
        due(8, "SWAP of y at x 0, where all is 0", turned.swap(1, 0, 5), LOST);
        due(8, "SWAP of y at the greatest number", turned.swap(1, 30, 30), 1);
        KeptCurves finite = of("1xx", "1");
        due(8, "at an ENDLESS y just those with j 2 count", finite.swap(0, 5, ENDLESS), LOST);
    }

    private static void pinchedLines() {
        KeptCurves curves = whole();
        due(10, "none is PINCHED for x", curves.pinched(0), 0);
        due(10, "none is PINCHED for y", curves.pinched(1), 0);
        due(10, "all are PINCHED", new KeptCurves().pinched(0), 4294967295L);
        due(10, "all are PINCHED", new KeptCurves().pinched(1), 4294967295L);
        KeptCurves lowest = of("27xxyy+8xxy+22xyy+21xy+18x", "8xxyy+1xxy+25xx+4xyy+1x+7y");
        due(10, "bits 0 and 31", lowest.pinched(0), 2147483649L);
        due(10, "bit 0 alone", lowest.pinched(1), 1);
        KeptCurves highest = of("13xxy+25x+28yy+20", "21xxyy+24");
        due(10, "bit 0 alone", highest.pinched(0), 1);
        due(10, "bit 31 alone", highest.pinched(1), 2147483648L);
        KeptCurves numbers = of("10xxyy+10xxy+3xx+4xyy+5xy+23x+4yy+29y+25", "2xxyy+6xxy+24xx+22xyy+30xy+18x+19yy+20y+8");
        due(10, "bit 30 alone", numbers.pinched(0), 1073741824L);
        due(10, "bit 3 alone", numbers.pinched(1), 8);
        KeptCurves turned = of("13xxyy+24xxy+28xx+30xyy+28xy+21x+16yy+24y+4", "27xxyy+17xxy+7xx+12xyy+2xy+20x+5yy+2y+30");
        due(10, "bit 3 alone", turned.pinched(0), 8);
        due(10, "bit 30 alone", turned.pinched(1), 1073741824L);
    }

    // ---- promises 11, 12

    private static void behindEdges() {
        KeptCurves curves = whole();
        for (int n = 0; n <= 99; n++) {
            due(11, n + " STEPS", curves.behind(0, 11, n), ROUND[n % 43]);
            due(11, n + " STEPS BACK", curves.behind(0, 11, -n), ROUND[(43 * 3 - n) % 43]);
        }
        due(11, "a STEP of the first SPOT", curves.behind(0, 0, 1), 787);
        due(11, "a STEP BACK of the first SPOT", curves.behind(0, 0, -1), 524);
        due(11, "a STEP to the first SPOT", curves.behind(16, 12, 1), 0);
        due(11, "a STEP BACK to the first SPOT", curves.behind(24, 19, -1), 0);
        for (int n : new int[] {MIN, MIN + 1, -101, -100, 100, 101, MAX}) {
            due(11, "n of -99 .. 99", curves.behind(0, 11, n), BAD);
            due(11, "NONE ahead of BAD", curves.behind(32, 11, n), NONE);
            due(11, "NONE ahead of BAD", curves.behind(0, -1, n), NONE);
        }
        for (int corner : new int[] {0, 31, 992, 1023}) {
            due(11, "no STEP", new KeptCurves().behind(corner / 32, corner % 32, 0), corner);
            due(11, "LOST at the first STEP", new KeptCurves().behind(corner / 32, corner % 32, 1), LOST);
            due(11, "LOST at the first STEP BACK", new KeptCurves().behind(corner / 32, corner % 32, -1), LOST);
            due(11, "BAD ahead of LOST", new KeptCurves().behind(corner / 32, corner % 32, 100), BAD);
            due(11, "BAD ahead of LOST", new KeptCurves().behind(corner / 32, corner % 32, -100), BAD);
            due(11, "NONE ahead of LOST", new KeptCurves().behind(corner / 32, 32, 1), NONE);
        }
        KeptCurves losing = losing();
        for (int n = 0; n < AWAY.length; n++) {
            due(11, n + " STEPS ahead of the one that is LOST", losing.behind(0, 22, n), AWAY[n]);
        }
        due(11, "the first STEP that is LOST", losing.behind(0, 22, 43), LOST);
        due(11, "behind a STEP that is LOST", losing.behind(0, 22, 44), LOST);
        due(11, "behind a STEP that is LOST", losing.behind(0, 22, 99), LOST);
        due(11, "a STEP BACK that is LOST", losing.behind(0, 22, -1), LOST);
        due(11, "behind a STEP BACK that is LOST", losing.behind(0, 22, -99), LOST);
    }

    private static void stepsThatAreLost() {
        KeptCurves curves = rich();
        due(8, "SWAP of x at y is there", curves.swap(0, 0, 25), 2);
        due(8, "SWAP of y at the new x is LOST", curves.swap(1, 2, 25), LOST);
        due(11, "a STEP of which the second SWAP is LOST", curves.behind(0, 25, 1), LOST);
        due(11, "a STEP of which the first SWAP is LOST", curves.behind(2, 25, 1), LOST);
        due(11, "a STEP BACK of which the first SWAP is LOST", curves.behind(2, 25, -1), LOST);
        due(8, "SWAP of y at x is there", curves.swap(1, 2, 0), 25);
        due(11, "a STEP BACK of which the second SWAP is LOST", curves.behind(2, 0, -1), LOST);
        due(11, "the STEP of a SPOT with no STEP BACK", curves.behind(2, 0, 1), 502);
        due(11, "the STEP BACK of a SPOT with no STEP", curves.behind(0, 25, -1), 89);
        lostStaysLost();
        KeptCurves endless = whole();
        due(11, "a STEP of the last SPOT", endless.behind(31, 31, 1), 1023);
        due(11, "a STEP BACK of the last SPOT", endless.behind(31, 31, -1), 1023);
        // ENDLESS x on the way: (xx + 1) by x sends 0 to ENDLESS, and y likewise
        KeptCurves both = of("1xxyy+1xx+1yy+1", "1xy");
        due(8, "SWAP of x 0", both.swap(0, 0, 5), ENDLESS);
        due(8, "SWAP of y at the new, ENDLESS x", both.swap(1, ENDLESS, 5), LOST);
        due(11, "SWAP of y is that at the new x", both.behind(0, 5, 1), LOST);
        due(8, "SWAP of y at the old x", both.swap(1, 2, 5), 25);
    }

    /** In rich() each SPOT with y 25 or 26 is LOST by the first STEP, each with x 2 or 20 by the first STEP BACK. */
    private static void lostStaysLost() {
        KeptCurves ahead = rich(), back = rich();
        for (int c = 0; c <= 31; c++) {
            for (int n : new int[] {1, 2, 3, 99}) {
                due(11, "LOST by the first STEP", ahead.behind(c, 25, n), LOST);
                due(11, "LOST by the first STEP", ahead.behind(c, 26, n), LOST);
                due(11, "LOST by the first STEP BACK", back.behind(2, c, -n), LOST);
                due(11, "LOST by the first STEP BACK", back.behind(20, c, -n), LOST);
            }
            due(12, "LOST by the first STEP", ahead.period(c, 26), LOST);
        }
    }

    private static void periods() {
        KeptCurves curves = whole();
        due(12, "one STEP, the fewest", curves.period(31, 31), 1);
        due(12, "one STEP, the fewest", curves.period(14, 30), 1);
        for (int spot : ROUND) {
            due(12, "43 STEPS", curves.period(spot / 32, spot % 32), 43);
        }
        due(12, "two STEPS", curves.period(0, 7), 2);
        due(12, "the first SPOT", curves.period(0, 0), 19);
        KeptCurves losing = losing();
        for (int spot : AWAY) {
            due(12, "LOST: it is, ahead of that", losing.period(spot / 32, spot % 32), LOST);
        }
        for (int corner : new int[] {0, 31, 992, 1023}) {
            due(12, "LOST at the first STEP", new KeptCurves().period(corner / 32, corner % 32), LOST);
        }
        due(12, "NONE ahead of LOST", new KeptCurves().period(32, 0), NONE);
        due(12, "NONE ahead of LOST", new KeptCurves().period(0, -1), NONE);
    }

    // ---- promises 13, 14, 15

    private static void fibres() {
        KeptCurves curves = ones();
        due(13, "a FIBRE of all SPOTS", curves.fibre(1, -1), 1024);
        for (int i : new int[] {0, 1, 30, 31, 32, 62, 63, 991, 992, 1022, 1023}) {
            due(13, "by x, then y, ENDLESS last", curves.fibre(1, i), i);
        }
        for (int i : new int[] {1024, 1025, MAX, -2, -3, MIN}) {
            due(13, "NOT: there are not so many (i below -1, too)", curves.fibre(1, i), NOT);
        }
        for (int k : new int[] {0, 2, 30, ENDLESS}) {
            due(13, "a FIBRE of no SPOT", curves.fibre(k, -1), 0);
            due(13, "a FIBRE of no SPOT", curves.fibre(k, 0), NOT);
            due(13, "a FIBRE of no SPOT", curves.fibre(k, -2), NOT);
        }
        for (int k : NO_COORDINATE) {
            due(13, "NONE: k", curves.fibre(k, -1), NONE);
            due(13, "NONE ahead of NOT", curves.fibre(k, -2), NONE);
            due(13, "NONE ahead of NOT", curves.fibre(k, 1024), NONE);
        }
        due(13, "VOID is no k", new KeptCurves().fibre(VOID, -1), NONE);
        for (int k = 0; k <= 31; k++) {
            due(13, "not VOID", new KeptCurves().fibre(k, -1), 0);
        }
        KeptCurves whole = whole();
        int[] endless = {6, 24, 107, 109, 181, 190, 197, 205, 225, 239, 302, 317, 431, 436, 550, 565, 611, 628, 662, 670,
            677, 686, 758, 760, 843, 861, 898, 899, 929, 930, 1023};
        due(13, "FIBRE of an ENDLESS k", whole.fibre(ENDLESS, -1), endless.length);
        for (int i = 0; i < endless.length; i++) {
            due(13, "FIBRE of an ENDLESS k", whole.fibre(ENDLESS, i), endless[i]);
        }
        due(13, "NOT: there are not so many", whole.fibre(ENDLESS, endless.length), NOT);
        due(13, "FIBRE of the least k", whole.fibre(0, -1), 39);
        due(13, "FIBRE of the greatest number", whole.fibre(30, -1), 32);
        KeptCurves last = of("1xxyy", "1xx+1yy+1");
        due(13, "ENDLESS last", last.fibre(ENDLESS, last.fibre(ENDLESS, -1) - 1), 1023);
    }

    private static void bases() {
        KeptCurves none = whole();
        due(14, "BASE of no SPOT", none.base(-1), 0);
        due(14, "NOT likewise", none.base(0), NOT);
        due(14, "NOT likewise", none.base(-2), NOT);
        KeptCurves one = losing();
        due(14, "BASE of one SPOT", one.base(-1), 1);
        due(14, "the first", one.base(0), 31);
        due(14, "NOT likewise", one.base(1), NOT);
        KeptCurves all = new KeptCurves();
        due(14, "BASE of all SPOTS", all.base(-1), 1024);
        for (int i : new int[] {0, 31, 32, 992, 1022, 1023}) {
            due(14, "by x, then y, ENDLESS last", all.base(i), i);
        }
        for (int i : new int[] {1024, MAX, -2, MIN}) {
            due(14, "NOT likewise", all.base(i), NOT);
        }
        KeptCurves two = rich();
        due(14, "likewise, the last", two.base(1), 666);
        due(14, "likewise, behind the last", two.base(2), NOT);
    }

    private static void ranks() {
        KeptCurves like = new KeptCurves();
        KeptCurves first = ones();
        for (int i = 0; i <= 31; i++) {
            due(15, "of like ones the lesser k", like.rank(i), i);
            due(15, "those whose FIBRE has more SPOTS ahead", first.rank(i), i == 0 ? 1 : i == 1 ? 0 : i);
        }
        KeptCurves last = of("1xxyy+1xx+1yy+1", "1");
        last.set(1, 0, 0, 0);
        due(15, "ENDLESS ahead, as its FIBRE has all SPOTS", last.rank(0), ENDLESS);
        for (int i = 1; i <= 31; i++) {
            due(15, "of like ones the lesser k", last.rank(i), i - 1);
        }
        int[] sizes = {39, 35, 33, 31, 26, 32, 39, 25, 31, 30, 24, 38, 28, 22, 40, 25, 36, 32, 36, 32, 36, 30, 36, 27, 36, 24,
            29, 24, 42, 43, 32, 31};
        KeptCurves whole = whole();
        int ahead = whole.rank(0);
        due(15, "the one with most SPOTS", ahead, 29);
        for (int i = 1; i <= 31; i++) {
            int k = whole.rank(i);
            boolean less = sizes[k] < sizes[ahead];
            due(15, "more SPOTS, then the lesser k, ahead", less || sizes[k] == sizes[ahead] && k > ahead ? 1 : 0, 1);
            ahead = k;
        }
        due(15, "the one with fewest SPOTS", ahead, 13);
        for (int i : NO_COORDINATE) {
            due(15, "NONE: " + i, whole.rank(i), NONE);
        }
    }

    // ---- promise 16

    /** By k: the length of each CYCLE of the FIBRE in whole(), rising. */
    private static final String[] CYCLES = {
        "39", "5 5 5 5 5 5 5", "33", "31", "26", "8 8 8 8", "13 13 13", "25", "1 30", "30", "2 2 2 2 2 2 2 2 2 2 2 2",
        "19 19", "28", "22", "5 5 5 5 5 5 5 5", "5 5 5 5 5", "9 9 9 9", "16 16", "3 3 3 3 3 3 3 3 3 3 3 3", "16 16",
        "6 6 6 6 6 6", "10 10 10", "18 18", "9 9 9", "6 6 6 6 6 6", "24", "29", "3 3 3 3 3 3 3 3", "42", "43", "32",
        "1 5 5 5 5 5 5"
    };

    private static void cyclesOfAFibre() {
        for (int k = 0; k <= 31; k++) {
            String[] texts = CYCLES[k].split(" ");
            int[] lengths = new int[texts.length];
            for (int n = 0; n < texts.length; n++) {
                lengths[n] = Integer.parseInt(texts[n]);
            }
            cyclesAre(whole(), k, lengths);
        }
        cyclesAre(ones(), 1, new int[0]);
        cyclesAre(ones(), 0, new int[0]);
        cyclesAre(new KeptCurves(), 31, new int[0]);
        // (0, 0) is the one SPOT at which KEPT is 0, and comes back to itself by one STEP
        KeptCurves still = of("1xx+1yy", "1");
        due(13, "a FIBRE of the first SPOT alone", still.fibre(0, -1), 1);
        cyclesAre(of("1xx+1yy", "1"), 0, new int[] {1});
        cyclesAre(still, 0, new int[] {1});
    }

    private static void cyclesAre(KeptCurves curves, int k, int[] lengths) {
        int spots = 0, unlike = 0, last = 0, firstOfAll = lengths.length == 0 ? NOT : lengths[0];
        for (int length : lengths) {
            spots += length;
            unlike += length != last ? 1 : 0;
            last = length;
        }
        due(16, "how many CYCLES of FIBRE " + k, curves.cycles(k, 0), lengths.length);
        due(16, "how many SPOTS they have, together, of FIBRE " + k, curves.cycles(k, 1), spots);
        due(16, "how many LENGTHS of FIBRE " + k, curves.cycles(k, 2), unlike);
        due(16, "the first of the LENGTHS, of FIBRE " + k, curves.cycles(k, 10), firstOfAll);
        for (int i = 0, from = 0; i <= 39; i++) {
            int end = from;
            while (end < lengths.length && lengths[end] == lengths[from]) {
                end++;
            }
            due(16, "the i-th of the LENGTHS, rising, of FIBRE " + k, curves.cycles(k, 10 + i), i < unlike ? lengths[from] : NOT);
            due(16, "how many CYCLES have that, of FIBRE " + k, curves.cycles(k, 50 + i), i < unlike ? end - from : NOT);
            from = end;
        }
    }

    private static void cyclesAsked() {
        KeptCurves curves = whole();
        for (int what : new int[] {MIN, -51, -10, -1, 3, 4, 9, 90, 91, 100, 1034, MAX}) {
            due(16, "NONE: what " + what, curves.cycles(8, what), NONE);
            due(16, "NONE: what " + what, curves.cycles(31, what), NONE);
        }
        for (int k : NO_COORDINATE) {
            due(16, "NONE: k " + k, curves.cycles(k, 0), NONE);
            due(16, "NONE: k " + k + " ahead of NOT", curves.cycles(k, 49), NONE);
            due(16, "NONE: k " + k + " ahead of NOT", curves.cycles(k, 89), NONE);
        }
        due(16, "NONE: a VOID k", new KeptCurves().cycles(VOID, 0), NONE);
        // FIBRE 19 has 42 SPOTS, that all get LOST
        KeptCurves losing = losing();
        due(13, "a FIBRE of SPOTS that all get LOST", losing.fibre(19, -1), 42);
        cyclesAre(losing, 19, new int[0]);
        cyclesAre(losing(), 0, new int[] {1, 2, 2, 2, 2, 2, 2, 2, 2, 2, 2, 2, 2, 2, 2, 2});
        due(13, "a FIBRE of which some SPOTS get LOST", rich().fibre(0, -1), 34);
        cyclesAre(rich(), 0, new int[] {9, 9});
        // rising, the lesser one though it comes later by x and y: 30 is that of (0, 8), 1 that of (14, 30)
        due(12, "the PERIOD of the first SPOT of FIBRE 8", curves.period(curves.fibre(8, 0) / 32, curves.fibre(8, 0) % 32), 30);
        due(16, "LENGTHS rising", curves.cycles(8, 10), 1);
        due(16, "LENGTHS rising", curves.cycles(8, 11), 30);
    }

    // ---- promise 17

    private static void degrees() {
        KeptCurves curves = of("19xxyy+11xx+1xy+23x+10yy", "10xxyy+21xx+7y");
        int[] x = {1, 1, 9, 25}, y = {0, 4, 16, 36};
        for (int n = 0; n <= 3; n++) {
            due(17, "DEGREE of x behind " + n + " STEPS", curves.degree(n, 30, 0), x[n]);
            due(17, "DEGREE of y behind " + n + " STEPS", curves.degree(n, 30, 1), y[n]);
        }
        degreesAre("18xxyy+8", "7xx+21xy", 2, 30, 5, 7);
        degreesAre("14xxy+15xyy+29xy+7yy+9y+17", "8xxyy+11xx+30xyy+19x", 3, 0, 19, 27);
        degreesAre("29x+25", "12xxyy+5xyy+8xy", 3, 30, 1, 1);
        // all that has x is taken away: a common factor of above and below
        degreesAre("2xxyy+5x", "28yy", 1, 30, 1, 0);
        degreesAre("2xxyy+5x", "28yy", 3, 30, 1, 0);
        // y becomes 0 by what is below: of 0 above 0
        degreesAre("4xxyy+15xxy", "16yy", 1, 30, 1, 0);
        degreesAre("12xx+30yy+12", "3xxy+28xx+5", 2, 0, 1, 0);
        degreesAre("19xx+29xyy+23yy", "14xx+10xyy+4", 3, 0, 1, 0);
        // y becomes ENDLESS: of 0 below 0
        degreesAre("14y", "9xxy+30xy+3", 1, 4, 1, 0);
        due(17, "no STEP, no numbers", new KeptCurves().degree(0, 0, 0), 1);
        due(17, "no STEP, no numbers", new KeptCurves().degree(0, 30, 1), 0);
    }

    private static void degreesAre(String above, String below, int n, int y, int ofX, int ofY) {
        KeptCurves curves = of(above, below);
        due(17, "DEGREE of x behind " + n + " STEPS at " + y + " for " + above + " by " + below, curves.degree(n, y, 0), ofX);
        due(17, "DEGREE of y behind " + n + " STEPS at " + y + " for " + above + " by " + below, curves.degree(n, y, 1), ofY);
    }

    private static void degreesLost() {
        for (int which = 0; which <= 1; which++) {
            due(17, "LOST at once, no numbers", new KeptCurves().degree(1, 0, which), LOST);
            due(17, "LOST at once, no numbers", new KeptCurves().degree(3, 30, which), LOST);
            KeptCurves first = of("9xxyy+2xx+22", "14xxyy+14xy");
            due(17, "LOST by the first SWAP of x", first.degree(1, 0, which), LOST);
            due(17, "LOST stays LOST", first.degree(3, 0, which), LOST);
            due(17, "not LOST at another y", first.degree(1, 1, which), which == 0 ? 1 : 3);
            KeptCurves second = of("1xyy+18", "30xyy+21xy+10y+28");
            due(17, "LOST by the first SWAP of y", second.degree(1, 1, which), LOST);
            due(17, "LOST by the first SWAP of y", second.degree(2, 1, which), LOST);
            KeptCurves third = of("4xxyy+15xxy", "16yy");
            due(17, "ahead of the STEP that is LOST", third.degree(1, 30, which), which == 0 ? 1 : 0);
            due(17, "LOST by the second SWAP of x", third.degree(2, 30, which), LOST);
            due(17, "LOST by the second SWAP of x", third.degree(3, 30, which), LOST);
        }
    }

    private static void degreesAsked() {
        KeptCurves curves = whole();
        for (int n : new int[] {MIN, -1, 4, 5, MAX}) {
            due(17, "BAD: n " + n, curves.degree(n, 0, 0), BAD);
            due(17, "BAD: n " + n, curves.degree(n, 30, 1), BAD);
            due(17, "BAD ahead of LOST", new KeptCurves().degree(n, 3, 0), BAD);
            due(17, "NONE ahead of BAD", curves.degree(n, 31, 0), NONE);
            due(17, "NONE ahead of BAD", curves.degree(n, 0, 2), NONE);
        }
        for (int y : new int[] {MIN, -1, 31, 32, MAX}) {
            due(17, "NONE: y (a number) " + y, curves.degree(0, y, 0), NONE);
            due(17, "NONE: y (a number) " + y, curves.degree(3, y, 1), NONE);
            due(17, "NONE ahead of LOST", new KeptCurves().degree(1, y, 1), NONE);
        }
        for (int which : NO_TABLE) {
            due(17, "NONE: which " + which, curves.degree(0, 0, which), NONE);
            due(17, "NONE: which " + which, curves.degree(3, 30, which), NONE);
        }
        due(17, "y 0 is a number", curves.degree(0, 0, 1), 0);
        due(17, "y 30 is a number", curves.degree(0, 30, 1), 0);
    }

    // ---- promises 18 to 23

    private static void setFull() {
        KeptCurves curves = new KeptCurves();
        int[] spots = {1023, 0, 31, 32, 992, 991, 1, 33, 500, 501, 499, 512};
        due(19, "STATE: nothing is in it", curves.forget(0, 0), STATE);
        for (int n = 0; n < 12; n++) {
            due(18, "how many there are", curves.tell(spots[n] / 32, spots[n] % 32), n + 1);
            due(18, "STATE: it is in it", curves.tell(spots[n] / 32, spots[n] % 32), STATE);
            due(36, "SPOTS of THE SET", curves.count(0), n + 1);
        }
        due(18, "up to 12", curves.tell(7, 7), FULL);
        due(18, "STATE ahead of FULL", curves.tell(31, 31), STATE);
        due(18, "STATE ahead of FULL", curves.tell(0, 0), STATE);
        due(18, "NONE ahead of FULL", curves.tell(32, 0), NONE);
        due(18, "NONE ahead of FULL", curves.tell(0, -1), NONE);
        due(19, "STATE: it is not in it", curves.forget(7, 7), STATE);
        due(36, "12 SPOTS", curves.count(0), 12);
        due(20, "the last one", curves.told(11), 1023);
        due(20, "NOT: there are not so many", curves.told(12), NOT);
        due(19, "how many there are", curves.forget(31, 31), 11);
        due(19, "STATE: it is not in it", curves.forget(31, 31), STATE);
        due(18, "the 12th again", curves.tell(7, 7), 12);
        due(18, "FULL again", curves.tell(31, 31), FULL);
        due(19, "the first", curves.forget(0, 0), 11);
        due(20, "the first", curves.told(0), 1);
        for (int left = 10; left >= 0; left--) {
            int spot = curves.told(left % 2 == 0 ? 0 : left);
            due(19, "how many there are", curves.forget(spot / 32, spot % 32), left);
        }
        due(20, "none is left", curves.told(0), NOT);
        due(19, "STATE: none is left", curves.forget(0, 1), STATE);
    }

    private static void setOrder() {
        KeptCurves curves = new KeptCurves();
        // by x, then y: told first by y, then x
        for (int y : new int[] {31, 0, 30}) {
            for (int x : new int[] {30, 31, 0}) {
                curves.tell(x, y);
            }
        }
        int[] sorted = {0, 30, 31, 960, 990, 991, 992, 1022, 1023};
        for (int i = 0; i < sorted.length; i++) {
            due(20, "by x, then y", curves.told(i), sorted[i]);
        }
        for (int i : new int[] {MIN, -2, -1, 9, 10, 11, 12, MAX}) {
            due(20, "NOT: there are not so many (i below 0, too): " + i, curves.told(i), NOT);
        }
    }

    private static void movedEdges() {
        KeptCurves curves = rich();
        int[] thrown = {7, 33, 79, 91, 130, 142, 148, 196, 232, 284, 291, 339};
        for (int spot : thrown) {
            curves.tell(spot / 32, spot % 32);
        }
        due(21, "each once", curves.moved(-1), 1);
        due(21, "each once", curves.moved(0), 666);
        for (int i : new int[] {MIN, -2, 1, 11, 12, MAX}) {
            due(21, "NOT likewise: " + i, curves.moved(i), NOT);
        }
        due(36, "what is asked changes nothing", curves.count(0), 12);
        due(23, "12 SPOTS and the one they all come to", curves.grows(1), 13);
        due(23, "that one is LOST then", curves.grows(40), 13);
        due(22, "THE SET becomes MOVED", curves.move(), 1);
        due(20, "THE SET becomes MOVED", curves.told(0), 666);
        due(20, "THE SET becomes MOVED", curves.told(1), NOT);
        due(21, "those of it that are not LOST by it", curves.moved(-1), 0);
        due(21, "those of it that are not LOST by it", curves.moved(0), NOT);
        due(22, "all are LOST", curves.move(), 0);
        due(20, "all are LOST", curves.told(0), NOT);
        due(22, "none is left", curves.move(), 0);
        KeptCurves full = whole();
        for (int n = 0; n < 12; n++) {
            full.tell(ROUND[n] / 32, ROUND[n] % 32);
        }
        due(21, "all 12", full.moved(-1), 12);
        due(21, "the first", full.moved(0), 39);
        due(21, "the last", full.moved(11), 954);
        due(21, "NOT likewise", full.moved(12), NOT);
        full.forget(0, 11);
        due(22, "the 11 as they are now", full.move(), 11);
        due(20, "the first of the 11", full.told(0), 39);
        due(19, "the one that none comes to", full.forget(ROUND[1] / 32, ROUND[1] % 32), STATE);
        full.tell(ROUND[1] / 32, ROUND[1] % 32);
        due(19, "the one they came from", full.forget(0, 11), STATE);
        due(19, "the one they come to", full.forget(ROUND[12] / 32, ROUND[12] % 32), 11);
    }

    private static void growsEdges() {
        KeptCurves curves = whole();
        due(23, "nothing grows", curves.grows(40), 0);
        curves.tell(0, 11);
        for (int n = 0; n <= 40; n++) {
            due(23, "up to n times", curves.grows(n), n + 1);
        }
        for (int n : new int[] {MIN, -2, -1, 41, 42, MAX}) {
            due(23, "n of 0 .. 40", curves.grows(n), BAD);
        }
        curves.tell(ROUND[1] / 32, ROUND[1] % 32);
        due(23, "unlike SPOTS", curves.grows(0), 2);
        due(23, "unlike SPOTS", curves.grows(1), 3);
        curves.tell(ROUND[3] / 32, ROUND[3] % 32);
        due(23, "all the 43 there are, ahead of the last", curves.grows(38), 42);
        due(23, "all the 43 there are", curves.grows(39), 43);
        due(23, "all the 43 there are", curves.grows(40), 43);
        KeptCurves full = whole();
        for (int spot : new int[] {11, 15, 52, 4, 8, 69, 42, 13, 25, 72, 68, 5}) {
            full.tell(spot / 32, spot % 32);
        }
        due(23, "12 SPOTS", full.grows(0), 12);
        due(23, "12 SPOTS, each with another beside it", full.grows(1), 24);
        due(23, "12 SPOTS on the longest ways", full.grows(40), 385);
        KeptCurves losing = losing();
        losing.tell(AWAY[30] / 32, AWAY[30] % 32);
        due(23, "to the one ahead of the STEP that is LOST", losing.grows(12), 13);
        due(23, "what is LOST is no SPOT", losing.grows(13), 13);
        due(23, "what is LOST is no SPOT", losing.grows(40), 13);
        KeptCurves lost = new KeptCurves();
        lost.tell(31, 31);
        due(23, "all is LOST at once", lost.grows(40), 1);
        KeptCurves still = of("1xx+1yy", "1");
        still.tell(0, 0);
        for (int n : new int[] {0, 1, 40, 0}) {
            due(23, "the first SPOT, that stays", still.grows(n), 1);
        }
        due(23, "BAD, all is LOST", lost.grows(41), BAD);
        due(23, "BAD, nothing is there", new KeptCurves().grows(-1), BAD);
    }

    // ---- promises 24, 25

    private static void wereEdges() {
        long all = (1L << 31) - 1;
        KeptCurves curves = of("1", "1");
        for (int v = 0; v <= 30; v++) {
            due(24, "bits 0 .. 30: the one number that makes KEPT " + v, curves.were(0, 0, 0, 0, 0, v), 1L << v);
        }
        due(24, "none makes KEPT ENDLESS", curves.were(0, 0, 0, 0, 0, ENDLESS), 0);
        due(24, "below it 0 alone does", curves.were(1, 0, 0, 0, 0, ENDLESS), 1);
        due(24, "below it none makes KEPT 0", curves.were(1, 0, 0, 0, 0, 0), 0);
        due(24, "a number that does not count there", curves.were(0, 2, 2, 0, 0, 1), all);
        due(24, "a number that does not count there", curves.were(1, 2, 2, 0, 0, 1), all);
        due(24, "a number that does not count there", curves.were(1, 2, 2, 0, 0, 2), 0);
        due(24, "0 also by VOID", curves.were(0, 0, 0, ENDLESS, 0, 0), 0);
        due(24, "0 also by VOID", curves.were(0, 0, 0, 0, ENDLESS, ENDLESS), 0);
        due(24, "the greatest powers alone count at ENDLESS COORDINATES", curves.were(0, 2, 2, ENDLESS, ENDLESS, ENDLESS), all - 1);
        due(24, "VOID by 0, 0 by all others", curves.were(1, 2, 2, ENDLESS, ENDLESS, 0), all - 1);
        due(24, "no numbers", new KeptCurves().were(1, 1, 1, 3, 3, 0), all - 1);
        due(24, "no numbers", new KeptCurves().were(0, 1, 1, 3, 3, ENDLESS), all - 1);
        due(24, "no numbers, another that does not count", new KeptCurves().were(0, 1, 1, 0, 3, ENDLESS), 0);
        weresOf("7xxy+3xyy+5xx+2y+4", "2xxyy+9xy+1x+6yy+3");
        weresOf("1x", "1y");
        for (int t : NO_TABLE) {
            due(24, "NO: table", curves.were(t, 0, 0, 0, 0, 0), NO);
        }
        for (int p : NO_POWER) {
            due(24, "NO: i", curves.were(0, p, 0, 0, 0, 0), NO);
            due(24, "NO: i", curves.were(1, p, 2, 31, 31, 31), NO);
            due(24, "NO: j", curves.were(0, 0, p, 0, 0, 0), NO);
            due(24, "NO: j", curves.were(1, 2, p, 31, 31, 31), NO);
        }
        for (int c : NO_COORDINATE) {
            due(24, "NO: x", curves.were(0, 0, 0, c, 0, 0), NO);
            due(24, "NO: y", curves.were(0, 0, 0, 0, c, 0), NO);
            due(24, "NO: k", curves.were(0, 0, 0, 0, 0, c), NO);
        }
        due(24, "NO: a VOID k", new KeptCurves().were(0, 0, 0, 0, 0, VOID), NO);
        due(3, "what is asked changes nothing", curves.of(0, 0, 0), 1);
    }

    /** Each number of both TABLES, at each edge of a SPOT: it is told to another object, and KEPT is asked of that. */
    private static void weresOf(String above, String below) {
        int[][] spots = {{0, 0}, {0, 2}, {3, 2}, {30, 0}, {ENDLESS, 2}, {3, ENDLESS}, {ENDLESS, 0}, {ENDLESS, ENDLESS}};
        for (int place = 0; place < 18; place++) {
            int t = place / 9, i = place / 3 % 3, j = place % 3;
            KeptCurves asked = of(above, below), told = of(above, below);
            for (int[] spot : spots) {
                long[] bits = new long[32];
                for (int v = 0; v <= 30; v++) {
                    told.set(t, i, j, v);
                    int kept = told.kept(spot[0], spot[1]);
                    if (kept != VOID) {
                        bits[kept] |= 1L << v;
                    }
                    if (v % 10 == 9) {
                        told = of(above, below);
                    }
                }
                for (int k : new int[] {0, 1, 2, 16, 30, ENDLESS}) {
                    due(24, "WERE of " + place + " at " + spot[0] + ", " + spot[1] + " for " + above + " by " + below,
                        asked.were(t, i, j, spot[0], spot[1], k), bits[k]);
                }
            }
        }
    }

    private static void oddsEdges() {
        KeptCurves curves = ones();
        for (int seed : new int[] {MIN, -1, 0, 1, MAX}) {
            for (int m = 1; m <= 30; m++) {
                due(25, "all of " + m + " SEEDS, in lowest terms", curves.odds(1, seed, m, 0), 1);
                due(25, "all of " + m + " SEEDS, in lowest terms", curves.odds(1, seed, m, 1), 1);
            }
            due(25, "0: 0 by 1", curves.odds(0, seed, 30, 0), 0);
            due(25, "0: 0 by 1", curves.odds(0, seed, 30, 1), 1);
            due(25, "0: 0 by 1", curves.odds(ENDLESS, seed, 1, 1), 1);
        }
        KeptCurves one = whole();
        for (int c : NO_COORDINATE) {
            due(25, "NO: k " + c, one.odds(c, 0, 1, 0), NO);
        }
        due(25, "NO: a VOID k", new KeptCurves().odds(VOID, 0, 1, 0), NO);
        for (int m : new int[] {MIN, -1, 0, 31, 32, MAX}) {
            due(25, "NO: m " + m, one.odds(0, 0, m, 0), NO);
            due(25, "NO: m " + m, one.odds(31, 0, m, 1), NO);
        }
        for (int part : NO_TABLE) {
            due(25, "NO: part " + part, one.odds(0, 0, 1, part), NO);
            due(25, "NO: part " + part, one.odds(31, MAX, 30, part), NO);
        }
        due(25, "VOID is not counted", new KeptCurves().odds(0, 0, 30, 0), 0);
    }

    /** KEPT is x, or y, where neither is ENDLESS: it tells what is drawn. */
    private static void oddsWrap() {
        KeptCurves x = of("1x", "1"), y = of("1y", "1");
        // SEED 0 draws (0, 28), 1 draws (6, 30), -1 draws (25, 25); MAX draws (25, 25), MIN (0, 28), MAX less 1 (19, 22)
        int[][] drawn = {{0, 0, 28}, {1, 6, 30}, {-1, 25, 25}, {MAX, 25, 25}, {MIN, 0, 28}, {MAX - 1, 19, 22}};
        for (int[] d : drawn) {
            for (int k = 0; k <= 31; k++) {
                due(25, "x DRAWN by " + d[0], x.odds(k, d[0], 1, 0), k == d[1] ? 1 : 0);
                due(25, "y DRAWN by " + d[0], y.odds(k, d[0], 1, 0), k == d[2] ? 1 : 0);
            }
        }
        KeptCurves wraps = of("1x", "1");
        due(25, "each 1 more (an int): behind MAX comes MIN", wraps.odds(25, MAX, 2, 0), 1);
        due(25, "each 1 more (an int): behind MAX comes MIN", wraps.odds(25, MAX, 2, 1), 2);
        due(25, "each 1 more (an int): behind MAX comes MIN", wraps.odds(0, MAX, 2, 1), 2);
        due(25, "m SEEDS, the last one with them", wraps.odds(0, MAX - 1, 3, 1), 3);
        due(25, "m SEEDS, the last one with them", wraps.odds(0, MAX - 1, 2, 1), 1);
        due(25, "behind -1 comes 0", wraps.odds(0, -1, 2, 0), 1);
        due(25, "behind -1 comes 0", wraps.odds(0, -1, 2, 1), 2);
    }

    // ---- promises 26, 27

    private static void planEdges() {
        KeptCurves curves = new KeptCurves();
        for (int what = 0; what <= 1; what++) {
            for (int v : new int[] {MIN, -1, 0, 10, 11, MAX}) {
                due(26, "BAD: v of 1 .. 9", curves.plan(what, v), BAD);
            }
        }
        for (int v : new int[] {MIN, -1, 2, 3, MAX}) {
            due(26, "BAD: v of 0, 1", curves.plan(2, v), BAD);
        }
        for (int what : new int[] {MIN, -3, -2, 4, 5, MAX}) {
            due(26, "NONE: what", curves.plan(what, 1), NONE);
            due(26, "NONE ahead of BAD", curves.plan(what, -1), NONE);
        }
        due(36, "what is refused changes nothing", curves.count(4), 0);
        int[][] rows = {{0, 1}, {0, 9}, {1, 1}, {1, 9}, {2, 0}, {2, 1}, {3, MIN}, {3, MAX}};
        for (int n = 0; n < 8; n++) {
            due(26, "how many there are", curves.plan(rows[n][0], rows[n][1]), n + 1);
        }
        due(26, "8 at most", curves.plan(0, 1), FULL);
        due(26, "8 at most", curves.plan(3, 0), FULL);
        due(26, "8 at most", curves.plan(2, 1), FULL);
        due(26, "BAD ahead of FULL", curves.plan(0, 0), BAD);
        due(26, "BAD ahead of FULL", curves.plan(1, 10), BAD);
        due(26, "BAD ahead of FULL", curves.plan(2, 2), BAD);
        due(26, "NONE ahead of FULL", curves.plan(4, 1), NONE);
        due(26, "NONE ahead of FULL", curves.plan(-2, 0), NONE);
        due(36, "what is refused changes nothing", curves.count(4), 8);
        for (int v : new int[] {MIN, -1, 0, 9, MAX}) {
            curves.plan(3, v);
            due(26, "what -1: it is empty then, whatever the other is", curves.plan(-1, v), 0);
            due(36, "what -1: it is empty then", curves.count(4), 0);
        }
        due(26, "what -1: nothing was in it", curves.plan(-1, 5), 0);
        due(26, "the first one again", curves.plan(3, 9), 1);
    }

    private static void endsEdges() {
        KeptCurves curves = whole();
        int at = 0;
        for (int row = 1; row <= 8; row++) {
            curves.plan(row < 7 ? 0 : 1, row == 8 ? 1 : 9);
            at += row < 7 ? 9 : row == 8 ? -1 : -9;
            due(27, "where it is behind all", curves.ends(0, 11), ROUND[(at + 430) % 43]);
        }
        curves.plan(-1, 0);
        due(27, "no ROW", curves.ends(0, 11), 11);
        for (int v = 1; v <= 9; v++) {
            curves.plan(-1, 0);
            curves.plan(0, v);
            due(27, "0 v STEPS", curves.ends(0, 11), ROUND[v]);
            curves.plan(-1, 0);
            curves.plan(1, v);
            due(27, "1 v STEPS BACK", curves.ends(0, 11), ROUND[43 - v]);
        }
        curves.plan(-1, 0);
        curves.plan(2, 0);
        due(27, "SWAP of x (v 0)", curves.ends(0, 11), 32 * curves.swap(0, 0, 11) + 11);
        curves.plan(2, 1);
        due(27, "SWAP of x, then of y: a STEP", curves.ends(0, 11), ROUND[1]);
        curves.plan(-1, 0);
        curves.plan(2, 1);
        due(27, "SWAP of y (v 1)", curves.ends(0, 11), curves.swap(1, 0, 11));
        curves.plan(2, 0);
        due(27, "SWAP of y, then of x: a STEP BACK", curves.ends(0, 11), ROUND[42]);
        curves.plan(-1, 0);
        curves.plan(3, 5);
        due(27, "x and y change places", curves.ends(0, 31), 992);
        due(27, "x and y change places", curves.ends(31, 0), 31);
        due(27, "x and y change places", curves.ends(31, 31), 1023);
        due(27, "x and y change places", curves.ends(1, 30), 30 * 32 + 1);
    }

    private static void endsLost() {
        KeptCurves curves = losing();
        for (int rows = 1; rows <= 8; rows++) {
            curves.plan(0, 9);
            due(27, "where it was ahead of the STEP that is LOST", curves.ends(0, 22), AWAY[Math.min(9 * rows, 42)]);
        }
        curves.plan(-1, 0);
        curves.plan(0, 9);
        due(27, "LOST at the last of 9 STEPS", curves.ends(AWAY[34] / 32, AWAY[34] % 32), AWAY[42]);
        due(27, "at the end of 9 STEPS", curves.ends(AWAY[33] / 32, AWAY[33] % 32), AWAY[42]);
        due(27, "LOST at the first of 9 STEPS", curves.ends(0, 31), 31);
        curves.plan(3, 0);
        due(27, "and goes on with the next ROW", curves.ends(0, 31), 992);
        curves.plan(-1, 0);
        curves.plan(1, 1);
        due(27, "LOST at the first STEP BACK", curves.ends(0, 22), 22);
        due(27, "a STEP BACK", curves.ends(AWAY[1] / 32, AWAY[1] % 32), 22);
        KeptCurves rich = rich();
        rich.plan(0, 1);
        due(27, "of a STEP: ahead of it, not between its SWAPS", rich.ends(0, 25), 25);
        rich.plan(3, 0);
        due(27, "and goes on with the next ROW", rich.ends(0, 25), 25 * 32);
        rich.plan(-1, 0);
        rich.plan(1, 1);
        due(27, "of a STEP BACK: ahead of it, not between its SWAPS", rich.ends(2, 0), 64);
        rich.plan(-1, 0);
        rich.plan(2, 0);
        due(27, "a SWAP of x that is LOST", rich.ends(2, 25), 89);
        rich.plan(2, 1);
        due(27, "a SWAP of y that is LOST", rich.ends(2, 25), 89);
        rich.plan(3, 0);
        due(27, "and goes on with the next ROW", rich.ends(2, 25), 25 * 32 + 2);
        KeptCurves zeros = new KeptCurves();
        zeros.plan(0, 9);
        zeros.plan(1, 9);
        zeros.plan(2, 0);
        zeros.plan(2, 1);
        due(27, "all is LOST", zeros.ends(31, 0), 992);
    }

    // ---- promises 28, 29

    private static void paperIs(String words, KeptCurves curves, int table, String want) {
        due(28, words + ": how many bytes", curves.write(table), want.length());
        for (int i = 0; i < want.length(); i++) {
            due(29, words + ": byte " + i + " of " + want, curves.paper(i), want.charAt(i));
        }
        due(29, words + ": no byte behind the last", curves.paper(want.length()), NONE);
        due(36, words + ": bytes of THE PAPER", curves.count(3), want.length());
    }

    private static void writtenEdges() {
        KeptCurves curves = new KeptCurves();
        for (int place = 0; place < 9; place++) {
            curves.set(0, place / 3, place % 3, 10 + 2 * place);
            curves.set(1, place / 3, place % 3, place + 1);
        }
        String longest = "26xxyy+24xxy+22xx+20xyy+18xy+16x+14yy+12y+10";
        paperIs("the most bytes", curves, 0, longest);
        paperIs("one figure each", curves, 1, "9xxyy+8xxy+7xx+6xyy+5xy+4x+3yy+2y+1");
        due(5, "as THE TAPE tells them", read(curves, 1, longest), 9);
        paperIs("as THE TAPE tells them", curves, 1, longest);
        for (int v : new int[] {1, 9, 10, 11, 19, 20, 29, 30}) {
            KeptCurves one = new KeptCurves();
            one.set(1, 0, 0, v);
            paperIs("a number", one, 1, String.valueOf(v));
            paperIs("if there are none, nothing", one, 0, "");
        }
        for (int place = 0; place < 9; place++) {
            KeptCurves one = new KeptCurves();
            one.set(0, place / 3, place % 3, 30);
            paperIs("one TERM", one, 0, "30" + "xx".substring(0, place / 3) + "yy".substring(0, place % 3));
        }
    }

    private static void paperEdges() {
        KeptCurves curves = of("12xx+3", "4y");
        due(29, "nothing at first", curves.paper(0), NONE);
        due(28, "how many bytes", curves.write(0), 6);
        due(29, "the first byte", curves.paper(0), '1');
        due(29, "the last byte", curves.paper(5), '3');
        for (int i : new int[] {MIN, -2, -1, 6, 7, 43, 44, 60, MAX}) {
            due(29, "NONE: " + i, curves.paper(i), NONE);
        }
        for (int t : NO_TABLE) {
            due(28, "NONE: table", curves.write(t), NONE);
        }
        due(29, "what is answered NONE changes nothing", curves.paper(5), '3');
        due(36, "what is answered NONE changes nothing", curves.count(3), 6);
        curves.set(0, 0, 0, 7);
        curves.set(0, 2, 0, 0);
        due(29, "THE PAPER holds what was written", curves.paper(5), '3');
        due(28, "the latest one", curves.write(1), 2);
        due(29, "the latest one", curves.paper(0), '4');
        due(29, "the latest one", curves.paper(2), NONE);
        curves.set(1, 0, 1, 0);
        due(28, "the latest one is nothing", curves.write(1), 0);
        due(29, "the latest one is nothing", curves.paper(0), NONE);
        due(36, "the latest one is nothing", curves.count(3), 0);
    }

    // ---- promises 30 to 33

    private static void judgedEdges() {
        KeptCurves curves = whole();
        for (int list : NO_LIST) {
            due(30, "NONE: list", curves.judge(list, 0, 11), NONE);
        }
        due(30, "NONE ahead of NOTHING", curves.judge(0, 32, 11), NONE);
        due(30, "NOTHING", curves.judge(0, 0, 11), NOTHING);
        curves.list(3, 0);
        due(30, "-5: none, of a row of 0 ints", curves.judge(3, 0, 11), NOT);
        for (int n = 1; n <= 12; n++) {
            curves.list(0, n);
            for (int i = 0; i < n; i++) {
                int spot = ROUND[i / 2 + 1];
                curves.put(0, i, i % 2 == 0 ? spot / 32 : spot % 32);
            }
            due(30, "-5: none is otherwise, of " + n, curves.judge(0, 0, 11), NOT);
        }
        for (int i = 11; i >= 0; i--) {
            curves.put(0, i, i % 2 == 0 ? MIN : MAX);
            due(30, "the first place that is otherwise", curves.judge(0, 0, 11), i);
        }
        due(30, "it tells SPOTS behind 1 STEP and on, not where it is", curves.judge(0, 24, 18), 0);
        curves.list(1, 2);
        due(30, "the SPOT behind 1 STEP is (0, 0)", curves.judge(1, 16, 12), NOT);
        due(30, "NOTHING of another LIST", curves.judge(2, 16, 12), NOTHING);
        KeptCurves losing = losing();
        losing.list(1, 12);
        losing.put(1, 0, 0);
        losing.put(1, 1, 31);
        for (int i = 2; i < 12; i++) {
            due(30, "-1 both from the first that is LOST on", losing.judge(1, 28, 22), i);
            losing.put(1, i, -1);
        }
        due(30, "-1 both from the first that is LOST on", losing.judge(1, 28, 22), NOT);
        losing.put(1, 11, LOST);
        due(30, "-1, not -7", losing.judge(1, 28, 22), 11);
        KeptCurves zeros = new KeptCurves();
        zeros.list(2, 12);
        due(30, "LOST at once", zeros.judge(2, 0, 0), 0);
        for (int i = 0; i < 12; i++) {
            zeros.put(2, i, -1);
        }
        due(30, "LOST at once", zeros.judge(2, 0, 0), NOT);
    }

    private static void listSizes() {
        KeptCurves curves = new KeptCurves();
        for (int list : NO_LIST) {
            due(31, "NONE: list", curves.list(list, 3), NONE);
            due(31, "NONE ahead of BAD", curves.list(list, 13), NONE);
            due(31, "NONE ahead of BELOW", curves.list(list, -1), NONE);
        }
        for (int list = 0; list <= 3; list++) {
            for (int n : new int[] {13, 14, MAX}) {
                due(31, "BAD: n above 12", curves.list(list, n), BAD);
            }
            for (int n : new int[] {-1, -2, MIN}) {
                due(31, "BELOW: a size below 0", curves.list(list, n), BELOW);
            }
            due(32, "nothing is held still", curves.put(list, 0, 1), NOTHING);
            for (int n = 0; n <= 12; n++) {
                due(31, "a row of " + n, curves.list(list, n), 1);
                due(33, "the last of " + n + ", 0", curves.get(list, n - 1), n == 0 ? NO : 0);
                due(33, "no such place", curves.get(list, n), NO);
                due(32, "no such place", curves.put(list, n, 1), BEYOND);
                due(32, "the last place", n == 0 ? 1 : curves.put(list, n - 1, 5), 1);
            }
            due(31, "all 0, again", curves.list(list, 12), 1);
            for (int i = 0; i < 12; i++) {
                due(33, "all 0, again", curves.get(list, i), 0);
            }
        }
    }

    private static void listPlaces() {
        KeptCurves curves = new KeptCurves();
        for (int list = 0; list <= 3; list++) {
            curves.list(list, 12 - list);
            for (int i = 0; i < 12 - list; i++) {
                due(32, "an int of any size", curves.put(list, i, i == 0 ? MIN : i == 1 ? MAX : 100 * list + i), 1);
            }
        }
        for (int list = 0; list <= 3; list++) {
            due(33, "the least int", curves.get(list, 0), MIN);
            due(33, "the greatest int", curves.get(list, 1), MAX);
            for (int i = 2; i < 12 - list; i++) {
                due(33, "each LIST has its own", curves.get(list, i), 100 * list + i);
            }
            for (int i : new int[] {MIN, -12, -1, 12 - list, 12, 13, 24, MAX}) {
                due(33, "NO: no such place", curves.get(list, i), NO);
                due(32, "BEYOND: no such place", curves.put(list, i, 1), BEYOND);
            }
        }
        for (int list : NO_LIST) {
            due(32, "NONE", curves.put(list, 0, 1), NONE);
            due(32, "NONE ahead of BEYOND", curves.put(list, 12, 1), NONE);
            due(33, "NO: no such LIST", curves.get(list, 0), NO);
        }
        KeptCurves none = new KeptCurves();
        for (int i : new int[] {MIN, -1, 0, 12, MAX}) {
            due(32, "NOTHING ahead of BEYOND", none.put(0, i, 1), NOTHING);
            due(33, "NO: nothing there", none.get(0, i), NO);
        }
    }

    // ---- promises 34, 35, 36

    private static void imageEdges() {
        KeptCurves curves = new KeptCurves();
        due(35, "STATE: there is none", curves.undo(), STATE);
        due(34, "how many SPOTS THE SET has: none", curves.image(), 0);
        due(35, "how many SPOTS THE SET has: none", curves.undo(), 0);
        for (int n = 0; n < 12; n++) {
            curves.tell(n, n);
            due(34, "how many SPOTS THE SET has", curves.image(), n + 1);
        }
        due(22, "all is LOST", curves.move(), 0);
        due(35, "THE SET of 12", curves.undo(), 12);
        due(20, "THE SET of 12", curves.told(11), 11 * 33);
        curves.move();
        due(34, "an IMAGE of none, in place of that", curves.image(), 0);
        curves.tell(5, 5);
        due(35, "an IMAGE of none", curves.undo(), 0);
        due(20, "an IMAGE of none", curves.told(0), NOT);
        KeptCurves rows = whole();
        for (int v = 1; v <= 8; v++) {
            rows.plan(v == 8 ? 1 : 0, v);
        }
        rows.image();
        rows.plan(-1, 0);
        for (int v = 1; v <= 8; v++) {
            rows.plan(v == 4 ? 1 : 0, 9);
        }
        rows.undo();
        due(27, "the ROWS of THE IMAGE", rows.ends(0, 11), ROUND[20]);
        KeptCurves empty = new KeptCurves();
        empty.image();
        empty.tell(1, 1);
        empty.plan(3, 0);
        empty.set(1, 2, 2, 5);
        due(35, "THE IMAGE of a new object", empty.undo(), 0);
        due(36, "no SPOTS", empty.count(0), 0);
        due(36, "no numbers", empty.count(1), 0);
        due(36, "no ROWS", empty.count(4), 0);
    }

    private static void imageHolds() {
        KeptCurves curves = new KeptCurves();
        for (int place = 0; place < 18; place++) {
            curves.set(place / 9, place / 3 % 3, place % 3, place + 2);
        }
        for (int n = 0; n < 8; n++) {
            curves.plan(3, n);
        }
        curves.tell(31, 31);
        curves.list(2, 1);
        curves.put(2, 0, 4);
        curves.write(0);
        curves.feed('1');
        due(34, "THE IMAGE is taken", curves.image(), 1);
        for (int turn = 0; turn < 2; turn++) {
            curves.plan(-1, 0);
            curves.plan(2, 0);
            curves.tell(turn, 3);
            curves.forget(31, 31);
            curves.put(2, 0, 5 + turn);
            curves.list(3, turn);
            curves.feed('2');
            read(curves, turn, turn == 0 ? "" : "9");
            curves.feed('3');
            curves.write(1);
            int bytes = curves.count(3);
            for (int place = 0; place < 18; place++) {
                curves.set(place / 9, place / 3 % 3, place % 3, turn);
            }
            due(35, "All is as THE IMAGE, once more: " + turn, curves.undo(), 1);
            for (int place = 0; place < 18; place++) {
                due(35, "TABLES", curves.of(place / 9, place / 3 % 3, place % 3), place + 2);
            }
            due(35, "THE SET", curves.told(0), 1023);
            due(35, "THE SET", curves.told(1), NOT);
            due(35, "the PLAN", curves.count(4), 8);
            due(35, "the PLAN", curves.ends(1, 2), 34);
            due(35, "not LISTS", curves.get(2, 0), 5 + turn);
            due(35, "not LISTS", curves.get(3, 0), turn == 0 ? NO : 0);
            due(35, "not THE TAPE", curves.count(2), 1);
            due(35, "not THE PAPER", curves.count(3), bytes);
        }
    }

    private static void countEdges() {
        KeptCurves curves = new KeptCurves();
        for (int what : new int[] {MIN, -2, -1, 5, 6, MAX}) {
            due(36, "BAD: " + what, curves.count(what), BAD);
        }
        for (int place = 0; place < 18; place++) {
            curves.set(place / 9, place / 3 % 3, place % 3, 30);
            due(36, "numbers of TABLES that are not 0", curves.count(1), place + 1);
        }
        for (int n = 0; n < 12; n++) {
            curves.tell(n, 31);
            due(36, "SPOTS of THE SET", curves.count(0), n + 1);
        }
        for (int n = 0; n < 8; n++) {
            curves.plan(3, 0);
            due(36, "ROWS of the PLAN", curves.count(4), n + 1);
        }
        for (int n = 0; n < 60; n++) {
            curves.feed('1');
            due(36, "bytes on THE TAPE", curves.count(2), n + 1);
        }
        curves.write(1);
        due(36, "bytes of THE PAPER", curves.count(3), 44);
        for (int place = 0; place < 18; place++) {
            curves.set(place / 9, place / 3 % 3, place % 3, 0);
            due(36, "numbers of TABLES that are not 0", curves.count(1), 17 - place);
        }
        due(36, "bytes of THE PAPER, that stays", curves.count(3), 44);
    }
}
