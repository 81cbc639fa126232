/** Short runs, one or more for each promise of the document: ordinary inputs, the edges, wrong inputs. */
public final class PromiseRuns {
    private static final long NO = Long.MIN_VALUE;
    private static final int MIN = Integer.MIN_VALUE, MAX = Integer.MAX_VALUE;
    private static final int[] ASKED = new int[37];
    private static int wrong = 0;

    private static void due(int promise, String call, long got, long want) {
        ASKED[promise]++;
        if (got != want) {
            wrong++;
            System.out.println("promise " + promise + ": " + call + " answered " + got + ", due is " + want);
        }
    }

    private static void feedAll(KeptCurves curves, String text) {
        for (int i = 0; i < text.length(); i++) {
            curves.feed(text.charAt(i));
        }
    }

    private static int read(KeptCurves curves, int table, String text) {
        feedAll(curves, text);
        return curves.table(table);
    }

    private static KeptCurves of(String above, String below) {
        KeptCurves curves = new KeptCurves();
        due(5, "table(0) of " + above, read(curves, 0, above), above.split("\\+").length);
        due(5, "table(1) of " + below, read(curves, 1, below), below.split("\\+").length);
        return curves;
    }

    /** KEPT is (xy) squared; a swap is the other sign. */
    private static KeptCurves squares() {
        return of("1xxyy", "1");
    }

    private static KeptCurves rich() {
        return of("3xxyy+2x+1y+4", "1xx+5yy+2");
    }

    private static KeptCurves crossed() {
        return of("1xxyy+1xx+1yy+3xy+5", "1xy");
    }

    private static String written(KeptCurves curves, int table) {
        StringBuilder text = new StringBuilder();
        int size = curves.write(table);
        for (int i = 0; i < size; i++) {
            text.append((char) curves.paper(i));
        }
        due(29, "paper(" + size + ")", curves.paper(size), -1);
        return text.toString();
    }

    private static void reads(String text, int want) {
        KeptCurves curves = of("7xy", "9");
        due(5, "table(0) of '" + text + "'", read(curves, 0, text), want);
        due(5, "count(2) behind '" + text + "'", curves.count(2), 0);
        if (want < 0) {
            due(5, "of(0, 1, 1) behind '" + text + "'", curves.of(0, 1, 1), 7);
            due(5, "count(1) behind '" + text + "'", curves.count(1), 2);
        }
    }

    private static void writes(String text, String want) {
        KeptCurves curves = new KeptCurves();
        read(curves, 1, text);
        String got = written(curves, 1);
        due(28, "written '" + text + "' is '" + got + "'", got.equals(want) ? 1 : 0, 1);
        due(28, "write(1) of " + text, curves.write(1), want.length());
        due(28, "count(3) of " + text, curves.count(3), want.length());
    }

    public static void main(String[] args) {
        newObject();
        setAndOf();
        feedAndTable();
        valueAndKept();
        swapAndRow();
        pinched();
        behindAndPeriod();
        fibreBaseRank();
        cycles();
        degree();
        theSet();
        movedAndGrows();
        wereAndOdds();
        plans();
        paper();
        judge();
        lists();
        image();
        counts();
        staleness();
        farOut();
        for (int promise = 1; promise <= 36; promise++) {
            due(promise, "a run that names it", ASKED[promise] > 0 ? 1 : 0, 1);
        }
        System.out.println(wrong == 0 ? "PromiseRuns: all answers are as due" : "PromiseRuns: " + wrong + " are not as due");
        if (wrong != 0) {
            System.exit(1);
        }
    }

    private static void newObject() {
        KeptCurves curves = new KeptCurves();
        for (int place = 0; place < 18; place++) {
            due(1, "of at " + place, curves.of(place / 9, place / 3 % 3, place % 3), 0);
        }
        for (int what = 0; what < 5; what++) {
            due(1, "count(" + what + ")", curves.count(what), 0);
        }
        due(1, "kept(3, 4)", curves.kept(3, 4), -6);
        due(1, "base(-1)", curves.base(-1), 1024);
        due(1, "paper(0)", curves.paper(0), -1);
        due(1, "told(0)", curves.told(0), -5);
        due(1, "ends(3, 4)", curves.ends(3, 4), 100);
        due(1, "undo()", curves.undo(), -3);
        for (int list = 0; list < 4; list++) {
            due(1, "put(" + list + ", 0, 0)", curves.put(list, 0, 0), -11);
        }
    }

    private static void setAndOf() {
        KeptCurves curves = new KeptCurves();
        for (int place = 0; place < 18; place++) {
            due(2, "set at " + place, curves.set(place / 9, place / 3 % 3, place % 3, place + 1), 0);
        }
        for (int place = 0; place < 18; place++) {
            due(3, "of at " + place, curves.of(place / 9, place / 3 % 3, place % 3), place + 1);
        }
        due(2, "set(1, 2, 2, 30)", curves.set(1, 2, 2, 30), 18);
        due(2, "set(1, 2, 2, 0)", curves.set(1, 2, 2, 0), 30);
        due(2, "set(1, 2, 2, 31)", curves.set(1, 2, 2, 31), -2);
        due(2, "set(1, 2, 2, -1)", curves.set(1, 2, 2, -1), -2);
        due(3, "of(1, 2, 2)", curves.of(1, 2, 2), 0);
        int[][] none = {{-1, 0, 0}, {2, 0, 0}, {0, -1, 0}, {0, 3, 0}, {0, 0, -1}, {0, 0, 3}, {MIN, 0, 0}, {0, MAX, 1}, {1, 1, MAX}};
        for (int[] n : none) {
            due(2, "set of no place", curves.set(n[0], n[1], n[2], 99), -1);
            due(3, "of of no place", curves.of(n[0], n[1], n[2]), -1);
        }
        due(2, "count(1)", curves.count(1), 17);
    }

    private static void feedAndTable() {
        KeptCurves curves = new KeptCurves();
        due(4, "feed(0)", curves.feed(0), -2);
        due(4, "feed(128)", curves.feed(128), -2);
        due(4, "feed(1)", curves.feed(1), 1);
        due(4, "feed(127)", curves.feed(127), 2);
        due(5, "table(2)", curves.table(2), -1);
        due(5, "table(-1)", curves.table(-1), -1);
        due(5, "count(2)", curves.count(2), 2);
        due(5, "table(0)", curves.table(0), -100);
        due(5, "count(2)", curves.count(2), 0);
        for (int n = 1; n <= 60; n++) {
            due(4, "feed(49) as byte " + n, curves.feed(n % 2 == 1 ? '1' : '+'), n);
        }
        due(4, "feed(49)", curves.feed(49), -4);
        due(4, "feed(0)", curves.feed(0), -2);
        due(5, "table(0)", curves.table(0), -160);
        feedAll(curves, "1+1+1+1+1+1+1+1+1+1+1+1+1+1+1+1+1+1+1+1+1+1+1+1+1+1+1+1+1+10");
        due(4, "count(2)", curves.count(2), 60);
        due(5, "table(1)", curves.table(1), 30);
        due(5, "of(1, 0, 0)", curves.of(1, 0, 0), 8);
        due(5, "table(1)", curves.table(1), -100);
        due(5, "of(1, 0, 0)", curves.of(1, 0, 0), 8);
        due(5, "table(1)", read(curves, 1, "30xy+2xy+5xx+30+1"), 5);
        due(5, "of(1, 1, 1)", curves.of(1, 1, 1), 1);
        due(5, "of(1, 2, 0)", curves.of(1, 2, 0), 5);
        due(5, "of(1, 0, 0)", curves.of(1, 0, 0), 0);
        due(5, "table(1)", read(curves, 1, "2y"), 1);
        due(5, "count(1)", curves.count(1), 1);
        due(5, "of(1, 0, 1)", curves.of(1, 0, 1), 2);
        int place = 0;
        for (String power : new String[] {"", "y", "yy", "x", "xy", "xyy", "xx", "xxy", "xxyy"}) {
            due(5, "table(0) of 12" + power, read(curves, 0, "12" + power), 1);
            due(5, "of(0, ..) of 12" + power, curves.of(0, place / 3, place % 3), 12);
            due(5, "count(1) of 12" + power, curves.count(1), 2);
            place++;
        }
        reads("", -100);
        reads("1", 1);
        reads("9", 1);
        reads("10", 1);
        reads("29yy", 1);
        reads("30xx", 1);
        reads("31", -101);
        reads("39x", -101);
        reads("40", -101);
        reads("99", -101);
        reads("100", -102);
        reads("0", -100);
        reads("05", -100);
        reads("x", -100);
        reads("+1", -100);
        reads("1+", -102);
        reads("1++1", -102);
        reads("1+0x", -102);
        reads("1x+", -103);
        reads("1xxx", -103);
        reads("1yyy", -103);
        reads("1yx", -102);
        reads("1xyx", -103);
        reads("1xxyyy", -105);
        reads("1xxyyx", -105);
        reads("1x2", -102);
        reads("1 ", -101);
        reads("1X", -101);
        reads("2xy+4xx+31y", -109);
        reads("1z", -101);
        reads("1/", -101);
        reads("1:", -101);
        reads(":", -100);
        reads("/", -100);
    }

    private static void valueAndKept() {
        KeptCurves curves = squares();
        due(6, "value(0, 2, 3)", curves.value(0, 2, 3), 5);
        due(6, "value(1, 2, 3)", curves.value(1, 2, 3), 1);
        due(6, "value(0, 31, 31)", curves.value(0, 31, 31), 1);
        due(6, "value(0, 31, 2)", curves.value(0, 31, 2), 4);
        due(6, "value(0, 2, 31)", curves.value(0, 2, 31), 4);
        due(6, "value(1, 31, 0)", curves.value(1, 31, 0), 0);
        due(6, "value(1, 0, 31)", curves.value(1, 0, 31), 0);
        due(6, "value(1, 0, 0)", curves.value(1, 0, 0), 1);
        due(7, "kept(2, 3)", curves.kept(2, 3), 5);
        due(7, "kept(30, 1)", curves.kept(30, 1), 1);
        due(7, "kept(31, 31)", curves.kept(31, 31), 31);
        due(7, "kept(0, 31)", curves.kept(0, 31), -6);
        due(7, "kept(31, 0)", curves.kept(31, 0), -6);
        due(7, "kept(0, 5)", curves.kept(0, 5), 0);
        int[][] none = {{-1, 0}, {32, 0}, {0, -1}, {0, 32}, {MIN, MAX}};
        for (int[] n : none) {
            due(6, "value of no spot", curves.value(0, n[0], n[1]), -1);
            due(7, "kept of no spot", curves.kept(n[0], n[1]), -1);
        }
        due(6, "value(2, 0, 0)", curves.value(2, 0, 0), -1);
        due(6, "value(-1, 0, 0)", curves.value(-1, 0, 0), -1);
        KeptCurves each = of("1+2y+3yy+4x+5xy+6xyy+7xx+8xxy+9xxyy", "3");
        due(6, "value(0, 0, 0)", each.value(0, 0, 0), 1);
        due(6, "value(0, 1, 0)", each.value(0, 1, 0), 12);
        due(6, "value(0, 0, 1)", each.value(0, 0, 1), 6);
        due(6, "value(0, 1, 1)", each.value(0, 1, 1), 14);
        due(6, "value(0, 2, 3)", each.value(0, 2, 3), (34 + 2 * 73 + 4 * 112) % 31);
        due(6, "value(0, 31, 1)", each.value(0, 31, 1), 24);
        due(6, "value(0, 1, 31)", each.value(0, 1, 31), 18);
        due(6, "value(0, 31, 0)", each.value(0, 31, 0), 7);
        due(6, "value(0, 0, 31)", each.value(0, 0, 31), 3);
        due(6, "value(0, 31, 31)", each.value(0, 31, 31), 9);
        due(7, "kept(0, 1)", each.kept(0, 1), 2);
        due(7, "kept(0, 0)", each.kept(0, 0), 21);
        for (int below = 1; below < 31; below++) {
            each.set(1, 0, 0, below);
            due(7, "kept(0, 0) by " + below, each.kept(0, 0) * below % 31, 1);
        }
    }

    private static void swapAndRow() {
        KeptCurves curves = squares();
        due(8, "swap(0, 5, 3)", curves.swap(0, 5, 3), 26);
        due(8, "swap(1, 5, 3)", curves.swap(1, 5, 3), 28);
        due(8, "swap(0, 0, 3)", curves.swap(0, 0, 3), 0);
        due(8, "swap(0, 31, 3)", curves.swap(0, 31, 3), 31);
        due(8, "swap(1, 3, 31)", curves.swap(1, 3, 31), 31);
        due(8, "swap(0, 5, 0)", curves.swap(0, 5, 0), -7);
        due(8, "swap(1, 0, 5)", curves.swap(1, 0, 5), -7);
        due(8, "swap(0, 5, 31)", curves.swap(0, 5, 31), -7);
        due(8, "swap(2, 5, 3)", curves.swap(2, 5, 3), -1);
        due(8, "swap(-1, 5, 3)", curves.swap(-1, 5, 3), -1);
        due(8, "swap(0, 32, 3)", curves.swap(0, 32, 3), -1);
        due(8, "swap(0, -1, 3)", curves.swap(0, -1, 3), -1);
        due(8, "swap(1, 3, 32)", curves.swap(1, 3, 32), -1);
        due(8, "swap(1, 3, -1)", curves.swap(1, 3, -1), -1);
        due(9, "row(0, 3, 0)", curves.row(0, 3, 0), 0);
        due(9, "row(0, 3, 1)", curves.row(0, 3, 1), 9);
        due(9, "row(0, 3, 2)", curves.row(0, 3, 2), 0);
        due(9, "row(0, 31, 1)", curves.row(0, 31, 1), 0);
        KeptCurves rows = of("2+5y+3x+7xx+1xxyy", "4+6x+8xx+9yy");
        // at y 2: a0 12, a1 3, a2 11; b0 9 (4 + 36 - 31), b1 6, b2 8
        due(9, "row(0, 2, 0)", rows.row(0, 2, 0), 66 - 24 - 31);
        due(9, "row(0, 2, 1)", rows.row(0, 2, 1), 99 - 96);
        due(9, "row(0, 2, 2)", rows.row(0, 2, 2), 27 - 72 + 62);
        // at x 2: a0 2 + 6 + 28 = 5, a1 5, a2 4; b0 4 + 12 + 32 = 17, b1 0, b2 9
        due(9, "row(1, 2, 0)", rows.row(1, 2, 0), 31 * 2 - 45);
        due(9, "row(1, 2, 1)", rows.row(1, 2, 1), (68 - 45) % 31);
        due(9, "row(1, 2, 2)", rows.row(1, 2, 2), 85 % 31);
        // at y ENDLESS: a0 0, a1 0, a2 1; b0 9, b1 0, b2 0
        due(9, "row(0, 31, 0)", rows.row(0, 31, 0), 0);
        due(9, "row(0, 31, 1)", rows.row(0, 31, 1), 9);
        // at x ENDLESS: a0 7, a1 0, a2 1; b0 8, b1 0, b2 0
        due(9, "row(1, 31, 1)", rows.row(1, 31, 1), 8);
        // u = 0 less (3 * 5 + 17) = -32, v = 11 * 5 + 3 = 58
        due(8, "swap(0, 5, 2)", rows.swap(0, 5, 2), 8);
        due(8, "27 * 8 is 30 modulo 31", 27 * 8 % 31, 30);
        // u = 0 less 3, v = 11: 11 * 17 = 187 = 1
        due(8, "swap(0, 31, 2)", rows.swap(0, 31, 2), 28 * 17 % 31);
        int[][] none = {{-1, 0, 0}, {2, 0, 0}, {0, -1, 0}, {0, 32, 0}, {0, 0, -1}, {0, 0, 3}};
        for (int[] n : none) {
            due(9, "row of none", rows.row(n[0], n[1], n[2]), -1);
        }
        KeptCurves keeps = of("2+5y+3x+7xx+1xxyy", "4+6x+8xx+9yy");
        for (int s = 0; s < 110; s++) {
            int x = s * 37 % 1024 / 32, y = s * 37 % 32;
            int k = keeps.kept(x, y), to = keeps.swap(0, x, y);
            if (k >= 0 && to >= 0 && (keeps.pinched(0) >>> y & 1) == 0) {
                due(8, "kept behind swap(0, " + x + ", " + y + ")", keeps.kept(to, y), k);
            }
        }
    }

    private static void pinched() {
        KeptCurves curves = rich();
        due(10, "pinched(0)", curves.pinched(0), 100663296L);
        due(10, "pinched(1)", curves.pinched(1), 1048580L);
        due(10, "pinched(2)", curves.pinched(2), NO);
        due(10, "pinched(-1)", curves.pinched(-1), NO);
        KeptCurves ends = squares();
        due(10, "pinched(0)", ends.pinched(0), 1L | 1L << 31);
        due(10, "pinched(1)", ends.pinched(1), 1L | 1L << 31);
        due(10, "pinched(0) of zeros", new KeptCurves().pinched(0), 4294967295L);
        KeptCurves few = of("1xxyy+1xx+1", "1x+1y");
        for (int which = 0; which < 2; which++) {
            long lines = 0;
            for (int c = 0; c < 32; c++) {
                int p = few.row(which, c, 0), q = few.row(which, c, 1), r = few.row(which, c, 2);
                lines += q * q % 31 == p * r % 31 ? 1L << c : 0;
            }
            due(10, "pinched(" + which + ")", few.pinched(which), lines);
        }
    }

    private static void behindAndPeriod() {
        KeptCurves curves = crossed();
        due(11, "behind(1, 2, 0)", curves.behind(1, 2, 0), 34);
        due(11, "behind(1, 2, 1)", curves.behind(1, 2, 1), 283);
        due(11, "behind(8, 27, -1)", curves.behind(8, 27, -1), 34);
        due(11, "behind(1, 2, -1)", curves.behind(1, 2, -1), 241);
        due(11, "behind(7, 17, 1)", curves.behind(7, 17, 1), 34);
        due(11, "behind(1, 2, 99)", curves.behind(1, 2, 99), curves.behind(1, 2, 3));
        due(11, "behind(1, 2, -99)", curves.behind(1, 2, -99), curves.behind(1, 2, 1));
        due(11, "behind(1, 2, 100)", curves.behind(1, 2, 100), -2);
        due(11, "behind(1, 2, -100)", curves.behind(1, 2, -100), -2);
        due(11, "behind(1, 2, least)", curves.behind(1, 2, MIN), -2);
        due(11, "behind(32, 2, 100)", curves.behind(32, 2, 100), -1);
        due(11, "behind(1, 32, 100)", curves.behind(1, 32, 100), -1);
        due(11, "behind(-1, 2, 1)", curves.behind(-1, 2, 1), -1);
        due(11, "behind(31, 31, 0)", curves.behind(31, 31, 0), 1023);
        due(11, "behind(31, 31, 1)", curves.behind(31, 31, 1), -7);
        due(11, "behind(31, 31, -1)", curves.behind(31, 31, -1), -7);
        due(11, "behind(31, 31, 100)", curves.behind(31, 31, 100), -2);
        due(12, "period(1, 2)", curves.period(1, 2), 4);
        due(12, "period(8, 27)", curves.period(8, 27), 4);
        due(12, "period(0, 0)", curves.period(0, 0), -7);
        due(12, "period(32, 0)", curves.period(32, 0), -1);
        due(12, "period(0, 32)", curves.period(0, 32), -1);
        due(12, "period(-1, 0)", curves.period(-1, 0), -1);
        KeptCurves signs = squares();
        due(11, "behind(5, 3, 1)", signs.behind(5, 3, 1), 26 * 32 + 28);
        due(11, "behind(5, 3, 2)", signs.behind(5, 3, 2), 5 * 32 + 3);
        due(12, "period(5, 3)", signs.period(5, 3), 2);
        due(12, "period(0, 3)", signs.period(0, 3), -7);
        // the swap of y at the new x: that of the old one would not be the same
        KeptCurves ordered = rich();
        int x = ordered.swap(0, 2, 3);
        due(11, "behind(2, 3, 1)", ordered.behind(2, 3, 1), 430);
        due(11, "behind(2, 3, 1) by swaps", 32 * x + ordered.swap(1, x, 3), 430);
        int y = ordered.swap(1, 13, 14);
        due(11, "behind(13, 14, -1)", ordered.behind(13, 14, -1), 67);
        due(11, "behind(13, 14, -1) by swaps", 32 * ordered.swap(0, 13, y) + y, 67);
        // periods are the fewest steps
        for (int s = 0; s < 60; s++) {
            int at = s * 17, period = ordered.period(at / 32, at % 32);
            if (period > 0 && period < 100) {
                due(12, "behind period", ordered.behind(at / 32, at % 32, period), at);
                for (int n = 1; n < period; n++) {
                    due(12, "behind less", ordered.behind(at / 32, at % 32, n) == at ? 1 : 0, 0);
                }
            }
        }
    }

    private static void fibreBaseRank() {
        KeptCurves curves = crossed();
        due(13, "fibre(3, -1)", curves.fibre(3, -1), 40);
        int ahead = -1;
        for (int i = 0; i < 40; i++) {
            int spot = curves.fibre(3, i);
            due(13, "fibre(3, " + i + ") rises", spot > ahead ? 1 : 0, 1);
            due(13, "kept at fibre(3, " + i + ")", curves.kept(spot / 32, spot % 32), 3);
            ahead = spot;
        }
        due(13, "fibre(3, 40)", curves.fibre(3, 40), -5);
        due(13, "fibre(3, -2)", curves.fibre(3, -2), -5);
        due(13, "fibre(3, most)", curves.fibre(3, MAX), -5);
        due(13, "fibre(3, least)", curves.fibre(3, MIN), -5);
        due(13, "fibre(32, -1)", curves.fibre(32, -1), -1);
        due(13, "fibre(-1, -1)", curves.fibre(-1, -1), -1);
        due(13, "fibre(-6, -1)", curves.fibre(-6, -1), -1);
        due(13, "fibre(31, -1)", curves.fibre(31, -1), 124);
        due(13, "fibre(31, 0)", curves.fibre(31, 0), 0);
        due(13, "fibre(31, 123)", curves.fibre(31, 123), 1023);
        due(14, "base(-1)", curves.base(-1), 0);
        due(14, "base(0)", curves.base(0), -5);
        KeptCurves two = rich();
        due(14, "base(-1)", two.base(-1), 2);
        due(14, "base(0)", two.base(0), 89);
        due(14, "base(1)", two.base(1), 666);
        due(14, "base(2)", two.base(2), -5);
        due(14, "base(-2)", two.base(-2), -5);
        due(14, "kept at base(0)", two.kept(89 / 32, 89 % 32), -6);
        int all = two.base(-1);
        for (int k = 0; k < 32; k++) {
            all += two.fibre(k, -1);
        }
        due(13, "all fibres and the base", all, 1024);
        int[] ranks = {11, 13, 29, 4, 24, 26, 2, 3, 17, 27, 6, 30, 0, 8, 15, 28, 23, 20, 31, 1, 9, 25, 19, 14, 22, 16, 18, 5, 12, 21, 10, 7};
        for (int i = 0; i < 32; i++) {
            due(15, "rank(" + i + ")", two.rank(i), ranks[i]);
        }
        due(15, "rank(32)", two.rank(32), -1);
        due(15, "rank(-1)", two.rank(-1), -1);
        KeptCurves like = new KeptCurves();
        for (int i = 0; i < 32; i++) {
            due(15, "rank(" + i + ") of zeros", like.rank(i), i);
        }
        KeptCurves ends = squares();
        due(13, "fibre(0, -1) of squares", ends.fibre(0, -1), 61);
        due(13, "fibre(31, -1) of squares", ends.fibre(31, -1), 61);
        due(14, "base(-1) of squares", ends.base(-1), 2);
        due(14, "base(0) of squares", ends.base(0), 31);
        due(14, "base(1) of squares", ends.base(1), 992);
        int[] squaresAhead = {0, 31, 1, 2, 4, 5, 7};
        for (int i = 0; i < 7; i++) {
            due(15, "rank(" + i + ") of squares", ends.rank(i), squaresAhead[i]);
        }
        due(13, "fibre(1, -1) of squares", ends.fibre(1, -1), 60);
        due(13, "fibre(3, -1) of squares", ends.fibre(3, -1), 0);
    }

    private static void cycles() {
        KeptCurves curves = rich();
        due(16, "cycles(31, 0)", curves.cycles(31, 0), 13);
        due(16, "cycles(31, 1)", curves.cycles(31, 1), 25);
        due(16, "cycles(31, 2)", curves.cycles(31, 2), 2);
        due(16, "cycles(31, 10)", curves.cycles(31, 10), 1);
        due(16, "cycles(31, 11)", curves.cycles(31, 11), 2);
        due(16, "cycles(31, 12)", curves.cycles(31, 12), -5);
        due(16, "cycles(31, 49)", curves.cycles(31, 49), -5);
        due(16, "cycles(31, 50)", curves.cycles(31, 50), 1);
        due(16, "cycles(31, 51)", curves.cycles(31, 51), 12);
        due(16, "cycles(31, 52)", curves.cycles(31, 52), -5);
        due(16, "cycles(31, 89)", curves.cycles(31, 89), -5);
        due(16, "cycles(2, 0)", curves.cycles(2, 0), 1);
        due(16, "cycles(2, 1)", curves.cycles(2, 1), 13);
        due(16, "cycles(2, 10)", curves.cycles(2, 10), 13);
        due(16, "cycles(26, 0)", curves.cycles(26, 0), 2);
        due(16, "cycles(26, 1)", curves.cycles(26, 1), 20);
        due(16, "cycles(26, 2)", curves.cycles(26, 2), 1);
        due(16, "cycles(26, 50)", curves.cycles(26, 50), 2);
        due(16, "cycles(3, 0)", curves.cycles(3, 0), 0);
        due(16, "cycles(3, 1)", curves.cycles(3, 1), 0);
        due(16, "cycles(3, 2)", curves.cycles(3, 2), 0);
        due(16, "cycles(3, 10)", curves.cycles(3, 10), -5);
        due(16, "cycles(3, 50)", curves.cycles(3, 50), -5);
        for (int what : new int[] {-1, 3, 9, 90, MIN, MAX}) {
            due(16, "cycles(3, " + what + ")", curves.cycles(3, what), -1);
        }
        due(16, "cycles(32, 0)", curves.cycles(32, 0), -1);
        due(16, "cycles(-1, 0)", curves.cycles(-1, 0), -1);
        KeptCurves other = of("1xxyy+4x+4y", "2xx+2yy");
        due(16, "cycles(8, 0)", other.cycles(8, 0), 6);
        due(16, "cycles(8, 1)", other.cycles(8, 1), 42);
        due(16, "cycles(8, 10)", other.cycles(8, 10), 1);
        due(16, "cycles(8, 11)", other.cycles(8, 11), 10);
        due(16, "cycles(8, 50)", other.cycles(8, 50), 2);
        due(16, "cycles(8, 51)", other.cycles(8, 51), 4);
        KeptCurves signs = squares();
        due(16, "cycles(1, 0) of squares", signs.cycles(1, 0), 30);
        due(16, "cycles(1, 1) of squares", signs.cycles(1, 1), 60);
        due(16, "cycles(1, 10) of squares", signs.cycles(1, 10), 2);
        due(16, "cycles(0, 0) of squares", signs.cycles(0, 0), 0);
    }

    private static void degree() {
        KeptCurves curves = rich();
        int[][] want = {{1, 0}, {1, 4}, {9, 16}, {25, 36}};
        for (int n = 0; n <= 3; n++) {
            for (int which = 0; which < 2; which++) {
                due(17, "degree(" + n + ", 3, " + which + ")", curves.degree(n, 3, which), want[n][which]);
                due(17, "degree(" + n + ", 0, " + which + ")", curves.degree(n, 0, which), want[n][which]);
            }
        }
        due(17, "degree(0, 30, 1)", curves.degree(0, 30, 1), 0);
        due(17, "degree(-1, 3, 0)", curves.degree(-1, 3, 0), -2);
        due(17, "degree(4, 3, 0)", curves.degree(4, 3, 0), -2);
        due(17, "degree(4, 31, 0)", curves.degree(4, 31, 0), -1);
        due(17, "degree(4, -1, 0)", curves.degree(4, -1, 0), -1);
        due(17, "degree(4, 3, 2)", curves.degree(4, 3, 2), -1);
        due(17, "degree(4, 3, -1)", curves.degree(4, 3, -1), -1);
        // y 25 is pinched for x there, and what is thrown together so is lost by the swap of y
        due(17, "degree(1, 25, 0)", curves.degree(1, 25, 0), -7);
        KeptCurves signs = squares();
        for (int n = 0; n <= 3; n++) {
            due(17, "degree(" + n + ", 3, 0) of squares", signs.degree(n, 3, 0), 1);
            due(17, "degree(" + n + ", 3, 1) of squares", signs.degree(n, 3, 1), 0);
        }
        due(17, "degree(1, 0, 0) of squares", signs.degree(1, 0, 0), -7);
        due(17, "degree(0, 0, 0) of squares", signs.degree(0, 0, 0), 1);
        due(17, "degree(0, 3, 0) of zeros", new KeptCurves().degree(0, 3, 0), 1);
        due(17, "degree(1, 3, 1) of zeros", new KeptCurves().degree(1, 3, 1), -7);
        KeptCurves small = of("1xy+7", "2xxy+3yy+1x");
        int[][] less = {{1, 0}, {1, 2}, {3, 4}, {7, 10}};
        due(17, "degree(2, 5, 0)", small.degree(2, 5, 0), less[2][0]);
        due(17, "degree(2, 5, 1)", small.degree(2, 5, 1), less[2][1]);
        due(17, "degree(3, 5, 0)", small.degree(3, 5, 0), less[3][0]);
        due(17, "degree(3, 5, 1)", small.degree(3, 5, 1), less[3][1]);
        due(17, "degree(2, 5, 1), once more", small.degree(2, 5, 1), less[2][1]);
    }

    private static void theSet() {
        KeptCurves curves = new KeptCurves();
        int[] spots = {500, 3, 1023, 0, 31, 992, 64, 65, 63, 700, 1, 999};
        for (int i = 0; i < 12; i++) {
            due(18, "tell " + spots[i], curves.tell(spots[i] / 32, spots[i] % 32), i + 1);
        }
        due(18, "tell(0, 2)", curves.tell(0, 2), -4);
        due(18, "tell(0, 3)", curves.tell(0, 3), -3);
        due(18, "tell(32, 3)", curves.tell(32, 3), -1);
        due(18, "tell(0, 32)", curves.tell(0, 32), -1);
        due(18, "tell(-1, 3)", curves.tell(-1, 3), -1);
        due(18, "tell(3, -1)", curves.tell(3, -1), -1);
        int[] sorted = spots.clone();
        java.util.Arrays.sort(sorted);
        for (int i = 0; i < 12; i++) {
            due(20, "told(" + i + ")", curves.told(i), sorted[i]);
        }
        due(20, "told(12)", curves.told(12), -5);
        due(20, "told(-1)", curves.told(-1), -5);
        due(20, "told(least)", curves.told(MIN), -5);
        due(19, "forget(0, 2)", curves.forget(0, 2), -3);
        due(19, "forget(32, 2)", curves.forget(32, 2), -1);
        due(19, "forget(2, -1)", curves.forget(2, -1), -1);
        due(19, "forget(0, 3)", curves.forget(0, 3), 11);
        due(19, "forget(0, 3)", curves.forget(0, 3), -3);
        due(20, "told(2)", curves.told(2), 31);
        due(20, "told(10)", curves.told(10), 1023);
        due(20, "told(11)", curves.told(11), -5);
        due(18, "tell(0, 2)", curves.tell(0, 2), 12);
        due(20, "told(2)", curves.told(2), 2);
        for (int i = 11; i >= 0; i--) {
            int spot = curves.told(i / 2);
            due(19, "forget " + spot, curves.forget(spot / 32, spot % 32), i);
        }
        due(20, "told(0)", curves.told(0), -5);
    }

    private static void movedAndGrows() {
        KeptCurves curves = squares();
        due(21, "moved(-1)", curves.moved(-1), 0);
        due(22, "move()", curves.move(), 0);
        due(23, "grows(40)", curves.grows(40), 0);
        curves.tell(5, 3);
        curves.tell(0, 3);
        curves.tell(7, 1);
        due(21, "moved(-1)", curves.moved(-1), 2);
        due(21, "moved(0)", curves.moved(0), 24 * 32 + 30);
        due(21, "moved(1)", curves.moved(1), 26 * 32 + 28);
        due(21, "moved(2)", curves.moved(2), -5);
        due(21, "moved(-2)", curves.moved(-2), -5);
        due(21, "told(0)", curves.told(0), 3);
        due(23, "grows(0)", curves.grows(0), 3);
        due(23, "grows(1)", curves.grows(1), 5);
        due(23, "grows(2)", curves.grows(2), 5);
        due(23, "grows(40)", curves.grows(40), 5);
        due(23, "grows(41)", curves.grows(41), -2);
        due(23, "grows(-1)", curves.grows(-1), -2);
        curves.tell(26, 28);
        due(23, "grows(0)", curves.grows(0), 4);
        due(23, "grows(1)", curves.grows(1), 5);
        due(22, "move()", curves.move(), 3);
        due(22, "told(0)", curves.told(0), 5 * 32 + 3);
        due(22, "told(1)", curves.told(1), 24 * 32 + 30);
        due(22, "told(2)", curves.told(2), 26 * 32 + 28);
        due(22, "told(3)", curves.told(3), -5);
        due(22, "move()", curves.move(), 3);
        // x 20 is pinched for y there: all y but one are thrown to one spot
        KeptCurves thrown = rich();
        for (int y = 0; y < 6; y++) {
            thrown.tell(thrown.swap(0, 20, y), y);
        }
        due(21, "moved(-1) of six, thrown together", thrown.moved(-1), 1);
        due(21, "moved(0) of six, thrown together", thrown.moved(0), 666);
        due(23, "grows(1) of six, thrown together", thrown.grows(1), 7);
        due(22, "move() of six, thrown together", thrown.move(), 1);
        due(22, "move() behind", thrown.move(), 0);
        KeptCurves long1 = rich();
        long1.tell(2, 3);
        int steps = 0;
        for (int spot = long1.behind(2, 3, 1); steps < 40 && spot >= 0 && spot != 67; spot = long1.behind(2, 3, steps + 1)) {
            steps++;
            due(23, "grows(" + steps + ") of an orbit", long1.grows(steps), steps + 1);
        }
        due(23, "grows(40) of an orbit", long1.grows(40), steps + 1);
    }

    private static void wereAndOdds() {
        KeptCurves curves = squares();
        // at (2, 3) the quotient would be 5 times the number
        due(24, "were(0, 2, 2, 2, 3, 10)", curves.were(0, 2, 2, 2, 3, 10), 1L << 2);
        due(24, "were(0, 2, 2, 2, 3, 0)", curves.were(0, 2, 2, 2, 3, 0), 1L);
        due(24, "were(0, 2, 2, 2, 3, 31)", curves.were(0, 2, 2, 2, 3, 31), 0);
        due(24, "were(1, 0, 0, 2, 3, 5)", curves.were(1, 0, 0, 2, 3, 5), 1L << 1);
        due(24, "were(1, 0, 0, 2, 3, 31)", curves.were(1, 0, 0, 2, 3, 31), 1L);
        due(24, "were(1, 0, 0, 2, 3, 0)", curves.were(1, 0, 0, 2, 3, 0), 0);
        due(24, "were(1, 0, 0, 0, 3, 0)", curves.were(1, 0, 0, 0, 3, 0), (1L << 31) - 2);
        due(24, "were(0, 1, 0, 0, 3, 0)", curves.were(0, 1, 0, 0, 3, 0), (1L << 31) - 1);
        due(24, "were(0, 2, 2, 31, 31, 31)", curves.were(0, 2, 2, 31, 31, 31), (1L << 31) - 2);
        due(24, "were(0, 1, 2, 31, 31, 31)", curves.were(0, 1, 2, 31, 31, 31), (1L << 31) - 1);
        due(24, "were(1, 0, 2, 0, 31, 0)", curves.were(1, 0, 2, 0, 31, 0), (1L << 31) - 2);
        due(24, "were(1, 0, 1, 0, 31, 0)", curves.were(1, 0, 1, 0, 31, 0), 0);
        due(24, "were(0, 0, 1, 2, 3, 6)", curves.were(0, 0, 1, 2, 3, 6), 1L << 21);
        due(24, "of(0, 0, 1)", curves.of(0, 0, 1), 0);
        due(24, "kept(2, 3)", curves.kept(2, 3), 5);
        int[][] none = {{-1, 0, 0, 0, 0, 0}, {2, 0, 0, 0, 0, 0}, {0, 3, 0, 0, 0, 0}, {0, -1, 0, 0, 0, 0}, {0, 0, 3, 0, 0, 0},
            {0, 0, -1, 0, 0, 0}, {0, 0, 0, 32, 0, 0}, {0, 0, 0, -1, 0, 0}, {0, 0, 0, 0, 32, 0}, {0, 0, 0, 0, -1, 0},
            {0, 0, 0, 0, 0, 32}, {0, 0, 0, 0, 0, -1}, {0, 0, 0, 0, 0, -6}};
        for (int[] n : none) {
            due(24, "were of none", curves.were(n[0], n[1], n[2], n[3], n[4], n[5]), NO);
        }
        KeptCurves one = of("1", "1");
        // KEPT is 1 but at endless coordinates, where it is VOID
        for (int seed : new int[] {0, 1, -5, 77, MAX - 3, MIN, 1 << 30}) {
            int hits = 0;
            for (int s = 0; s < 20; s++) {
                int z = (seed + s) * 1103515245 + 12345;
                int x = z >> 16 & 31;
                int y = z * 1103515245 + 12345 >> 16 & 31;
                hits += x != 31 && y != 31 ? 1 : 0;
            }
            long above = one.odds(1, seed, 20, 0), below = one.odds(1, seed, 20, 1);
            due(25, "odds(1, " + seed + ", 20, ..)", above * 20, below * hits);
            for (int d = 2; d <= 20; d++) {
                due(25, "lowest terms", above % d == 0 && below % d == 0 ? 1 : 0, 0);
            }
            due(25, "odds(2, " + seed + ", 20, 0)", one.odds(2, seed, 20, 0), 0);
            due(25, "odds(2, " + seed + ", 20, 1)", one.odds(2, seed, 20, 1), 1);
        }
        // SEED 0: z is 12345, then -740551042: x is 0, y is 29
        due(25, "odds(0, 0, 1, 0)", of("1x", "1").odds(0, 0, 1, 0), 1);
        due(25, "odds(10, 0, 1, 0)", of("1y", "1").odds((-740551042 >>> 16) % 32, 0, 1, 0), 1);
        due(25, "odds(0, 0, 1, 1)", of("1x", "1").odds(0, 0, 1, 1), 1);
        due(25, "odds(1, 0, 0, 0)", one.odds(1, 0, 0, 0), NO);
        due(25, "odds(1, 0, 31, 0)", one.odds(1, 0, 31, 0), NO);
        due(25, "odds(1, 0, -1, 0)", one.odds(1, 0, -1, 0), NO);
        due(25, "odds(1, 0, 1, 2)", one.odds(1, 0, 1, 2), NO);
        due(25, "odds(1, 0, 1, -1)", one.odds(1, 0, 1, -1), NO);
        due(25, "odds(32, 0, 1, 0)", one.odds(32, 0, 1, 0), NO);
        due(25, "odds(-1, 0, 1, 0)", one.odds(-1, 0, 1, 0), NO);
        due(25, "odds(-6, 0, 1, 0)", one.odds(-6, 0, 1, 0), NO);
    }

    private static void plans() {
        KeptCurves curves = crossed();
        due(26, "plan(-2, 1)", curves.plan(-2, 1), -1);
        due(26, "plan(4, 1)", curves.plan(4, 1), -1);
        due(26, "plan(4, -1)", curves.plan(4, -1), -1);
        for (int what = 0; what < 2; what++) {
            due(26, "plan(" + what + ", 0)", curves.plan(what, 0), -2);
            due(26, "plan(" + what + ", 10)", curves.plan(what, 10), -2);
        }
        due(26, "plan(2, -1)", curves.plan(2, -1), -2);
        due(26, "plan(2, 2)", curves.plan(2, 2), -2);
        due(27, "ends(1, 2)", curves.ends(1, 2), 34);
        due(26, "plan(0, 1)", curves.plan(0, 1), 1);
        due(27, "ends(1, 2)", curves.ends(1, 2), 283);
        due(26, "plan(1, 2)", curves.plan(1, 2), 2);
        due(27, "ends(1, 2)", curves.ends(1, 2), 241);
        due(26, "plan(0, 9)", curves.plan(0, 9), 3);
        due(27, "ends(1, 2)", curves.ends(1, 2), 34);
        due(26, "plan(2, 0)", curves.plan(2, 0), 4);
        due(27, "ends(1, 2)", curves.ends(1, 2), 8 * 32 + 2);
        due(26, "plan(2, 1)", curves.plan(2, 1), 5);
        due(27, "ends(1, 2)", curves.ends(1, 2), 283);
        due(26, "plan(3, least)", curves.plan(3, MIN), 6);
        due(27, "ends(1, 2)", curves.ends(1, 2), 27 * 32 + 8);
        due(26, "plan(3, 0)", curves.plan(3, 0), 7);
        due(26, "plan(1, 9)", curves.plan(1, 9), 8);
        due(27, "ends(1, 2)", curves.ends(1, 2), 34);
        due(26, "plan(0, 1)", curves.plan(0, 1), -4);
        due(26, "plan(0, 0)", curves.plan(0, 0), -2);
        due(26, "plan(9, 0)", curves.plan(9, 0), -1);
        due(26, "count(4)", curves.count(4), 8);
        due(27, "ends(32, 2)", curves.ends(32, 2), -1);
        due(27, "ends(-1, 2)", curves.ends(-1, 2), -1);
        due(27, "ends(2, 32)", curves.ends(2, 32), -1);
        due(26, "plan(-1, -99)", curves.plan(-1, -99), 0);
        due(26, "count(4)", curves.count(4), 0);
        due(27, "ends(1, 2)", curves.ends(1, 2), 34);
        // lost at once, then exchanged: the row behind is done all the same
        KeptCurves signs = squares();
        signs.plan(2, 0);
        signs.plan(0, 3);
        signs.plan(3, 0);
        due(27, "ends(5, 0) of squares", signs.ends(5, 0), 5);
        due(27, "ends(0, 5) of squares", signs.ends(0, 5), 5 * 32);
        due(27, "ends(5, 3) of squares", signs.ends(5, 3), 28 * 32 + 5);
        // lost on the way: it stays ahead of the step that loses it
        KeptCurves way = rich();
        for (int spot = 0, found = 0; spot < 1024 && found < 5; spot += 7) {
            int x = spot / 32, y = spot % 32;
            if (way.behind(x, y, 2) >= 0 && way.behind(x, y, 3) == -7) {
                found++;
                way.plan(-1, 0);
                way.plan(0, 9);
                due(27, "ends on the way", way.ends(x, y), way.behind(x, y, 2));
                way.plan(2, 0);
                int at = way.behind(x, y, 2), to = way.swap(0, at / 32, at % 32);
                due(27, "ends behind the way", way.ends(x, y), to < 0 ? at : to * 32 + at % 32);
            }
        }
        for (int spot = 0, found = 0; spot < 1024 && found < 3; spot += 5) {
            int x = spot / 32, y = spot % 32;
            if (way.behind(x, y, -1) >= 0 && way.behind(x, y, -2) == -7) {
                found++;
                way.plan(-1, 0);
                way.plan(1, 9);
                due(27, "ends on the way back", way.ends(x, y), way.behind(x, y, -1));
            }
        }
    }

    private static void paper() {
        writes("1", "1");
        writes("30xxyy", "30xxyy");
        writes("10x", "10x");
        writes("7y+3yy+5x+9xy+11xyy+20xx+21xxy+30xxyy+8", "30xxyy+21xxy+20xx+11xyy+9xy+5x+3yy+7y+8");
        writes("1xy+29xy", "30xy");
        KeptCurves curves = of("4xx", "30+1");
        due(28, "write(1)", curves.write(1), 0);
        due(29, "paper(0)", curves.paper(0), -1);
        due(28, "write(0)", curves.write(0), 3);
        due(28, "write(2)", curves.write(2), -1);
        due(28, "write(-1)", curves.write(-1), -1);
        due(29, "paper(0)", curves.paper(0), '4');
        due(29, "paper(1)", curves.paper(1), 'x');
        due(29, "paper(2)", curves.paper(2), 'x');
        due(29, "paper(3)", curves.paper(3), -1);
        due(29, "paper(-1)", curves.paper(-1), -1);
        due(29, "paper(least)", curves.paper(MIN), -1);
        curves.set(0, 2, 0, 5);
        due(29, "paper(0) stays", curves.paper(0), '4');
        KeptCurves full = new KeptCurves();
        for (int place = 0; place < 9; place++) {
            full.set(0, place / 3, place % 3, 10 + place);
        }
        due(28, "write(0) of all", full.write(0), 44);
        due(29, "paper(43)", full.paper(43), '0');
        due(29, "paper(44)", full.paper(44), -1);
    }

    private static void judge() {
        KeptCurves curves = crossed();
        due(30, "judge(0, 1, 2)", curves.judge(0, 1, 2), -11);
        due(30, "judge(-1, 1, 2)", curves.judge(-1, 1, 2), -1);
        due(30, "judge(4, 1, 2)", curves.judge(4, 1, 2), -1);
        due(30, "judge(0, 32, 2)", curves.judge(0, 32, 2), -1);
        due(30, "judge(0, 1, -1)", curves.judge(0, 1, -1), -1);
        curves.list(0, 0);
        due(30, "judge(0, 1, 2) of none", curves.judge(0, 1, 2), -5);
        for (int n = 1; n <= 12; n++) {
            curves.list(1, n);
            for (int i = 0; i < n; i++) {
                int spot = curves.behind(1, 2, i / 2 + 1);
                due(30, "judge(1, 1, 2) ahead of place " + i, curves.judge(1, 1, 2), i);
                curves.put(1, i, i % 2 == 0 ? spot / 32 : spot % 32);
            }
            due(30, "judge(1, 1, 2) of " + n, curves.judge(1, 1, 2), -5);
        }
        curves.put(1, 3, -1);
        due(30, "judge(1, 1, 2)", curves.judge(1, 1, 2), 3);
        due(30, "judge(1, 8, 27)", curves.judge(1, 8, 27), 0);
        curves.list(2, 4);
        for (int i = 0; i < 4; i++) {
            due(30, "judge(2, 0, 0)", curves.judge(2, 0, 0), i);
            curves.put(2, i, -1);
        }
        due(30, "judge(2, 0, 0)", curves.judge(2, 0, 0), -5);
        curves.put(2, 2, -7);
        due(30, "judge(2, 0, 0)", curves.judge(2, 0, 0), 2);
        // lost on the way: what is told ahead is a spot, all behind is -1
        KeptCurves way = rich();
        for (int spot = 0, found = 0; spot < 1024 && found < 3; spot += 7) {
            int x = spot / 32, y = spot % 32;
            if (way.behind(x, y, 2) >= 0 && way.behind(x, y, 3) == -7) {
                found++;
                way.list(3, 11);
                for (int i = 0; i < 11; i++) {
                    int at = way.behind(x, y, i / 2 + 1);
                    due(30, "judge(3, ..)", way.judge(3, x, y), at == 0 || at > 0 && (i % 2 == 0 ? at / 32 : at % 32) == 0 ? way.judge(3, x, y) : i);
                    way.put(3, i, at < 0 ? -1 : i % 2 == 0 ? at / 32 : at % 32);
                }
                due(30, "judge(3, ..)", way.judge(3, x, y), -5);
            }
        }
    }

    private static void lists() {
        KeptCurves curves = new KeptCurves();
        for (int list = 0; list < 4; list++) {
            due(33, "get of nothing", curves.get(list, 0), NO);
            due(32, "put of nothing", curves.put(list, 99, 5), -11);
            due(31, "list(" + list + ", 12)", curves.list(list, 12), 1);
            for (int i = 0; i < 12; i++) {
                due(33, "get of a new list", curves.get(list, i), 0);
                due(32, "put", curves.put(list, i, i == 0 ? MIN : i == 1 ? MAX : 100 * list - i), 1);
            }
        }
        for (int list = 0; list < 4; list++) {
            due(33, "get", curves.get(list, 0), MIN);
            due(33, "get", curves.get(list, 1), MAX);
            for (int i = 2; i < 12; i++) {
                due(33, "get", curves.get(list, i), 100 * list - i);
            }
            due(33, "get(" + list + ", 12)", curves.get(list, 12), NO);
            due(33, "get(" + list + ", -1)", curves.get(list, -1), NO);
            due(32, "put(" + list + ", 12, 1)", curves.put(list, 12, 1), -13);
            due(32, "put(" + list + ", -1, 1)", curves.put(list, -1, 1), -13);
        }
        due(31, "list(4, 99)", curves.list(4, 99), -1);
        due(31, "list(-1, -99)", curves.list(-1, -99), -1);
        due(31, "list(0, 13)", curves.list(0, 13), -2);
        due(31, "list(0, -1)", curves.list(0, -1), -14);
        due(31, "list(0, least)", curves.list(0, MIN), -14);
        due(31, "list(0, most)", curves.list(0, MAX), -2);
        due(33, "get(0, 5) stays", curves.get(0, 5), -5);
        due(31, "list(0, 3)", curves.list(0, 3), 1);
        due(33, "get(0, 2)", curves.get(0, 2), 0);
        due(33, "get(0, 3)", curves.get(0, 3), NO);
        due(32, "put(0, 3, 1)", curves.put(0, 3, 1), -13);
        due(31, "list(0, 12)", curves.list(0, 12), 1);
        due(33, "get(0, 11)", curves.get(0, 11), 0);
        due(33, "get(1, 2)", curves.get(1, 2), 98);
        due(31, "list(0, 0)", curves.list(0, 0), 1);
        due(33, "get(0, 0)", curves.get(0, 0), NO);
        due(32, "put(0, 0, 1)", curves.put(0, 0, 1), -13);
        due(32, "put(4, 0, 1)", curves.put(4, 0, 1), -1);
        due(32, "put(-1, 0, 1)", curves.put(-1, 0, 1), -1);
        due(33, "get(4, 0)", curves.get(4, 0), NO);
        due(33, "get(-1, 0)", curves.get(-1, 0), NO);
        due(33, "get(least, 0)", curves.get(MIN, 0), NO);
    }

    private static void image() {
        KeptCurves curves = crossed();
        due(35, "undo()", curves.undo(), -3);
        curves.tell(1, 2);
        curves.tell(31, 0);
        curves.plan(0, 2);
        curves.list(0, 2);
        curves.put(0, 0, 7);
        curves.write(1);
        feedAll(curves, "12");
        due(34, "image()", curves.image(), 2);
        due(34, "count(0)", curves.count(0), 2);
        for (int turn = 0; turn < 2; turn++) {
            curves.set(0, 0, 0, 9);
            curves.set(1, 2, 2, 9);
            curves.forget(1, 2);
            curves.tell(3, 3);
            curves.tell(4, 4);
            curves.plan(-1, 0);
            curves.plan(3, 0);
            curves.plan(3, 0);
            curves.put(0, 0, 8 + turn);
            curves.write(0);
            curves.feed('3');
            due(35, "undo()", curves.undo(), 2);
            due(35, "of(0, 0, 0)", curves.of(0, 0, 0), 5);
            due(35, "of(1, 2, 2)", curves.of(1, 2, 2), 0);
            due(35, "told(0)", curves.told(0), 34);
            due(35, "told(1)", curves.told(1), 992);
            due(35, "told(2)", curves.told(2), -5);
            due(35, "count(4)", curves.count(4), 1);
            due(35, "ends(1, 2)", curves.ends(1, 2), curves.behind(1, 2, 2));
            due(35, "get(0, 0)", curves.get(0, 0), 8 + turn);
            due(35, "count(2)", curves.count(2), 3 + turn);
            due(35, "count(3)", curves.count(3), 19);
        }
        curves.tell(9, 9);
        due(34, "image()", curves.image(), 3);
        curves.forget(9, 9);
        due(35, "undo()", curves.undo(), 3);
        // the image is no other name for what changes
        KeptCurves apart = squares();
        due(34, "image()", apart.image(), 0);
        apart.undo();
        apart.set(0, 1, 1, 4);
        apart.plan(0, 1);
        apart.tell(0, 0);
        due(35, "undo()", apart.undo(), 0);
        due(35, "of(0, 1, 1)", apart.of(0, 1, 1), 0);
        due(35, "count(4)", apart.count(4), 0);
    }

    private static void counts() {
        KeptCurves curves = squares();
        due(36, "count(1)", curves.count(1), 2);
        curves.tell(1, 1);
        feedAll(curves, "1+2+3");
        curves.write(0);
        curves.plan(3, 3);
        curves.plan(3, 3);
        curves.plan(3, 3);
        int[] want = {1, 2, 5, 5, 3};
        for (int what = 0; what < 5; what++) {
            due(36, "count(" + what + ")", curves.count(what), want[what]);
        }
        for (int what : new int[] {-1, 5, MIN, MAX}) {
            due(36, "count(" + what + ")", curves.count(what), -2);
        }
    }

    /** What has been worked out once must not outlive the tables, by whatever call they change. */
    private static void staleness() {
        long[] squares = answers(squares());
        long[] rich = answers(rich());
        KeptCurves curves = squares();
        curves.image();
        compare("at first", answers(curves), squares);
        read(curves, 0, "3xxyy+2x+1y+4");
        read(curves, 1, "1xx+5yy+2");
        compare("behind table", answers(curves), rich);
        curves.undo();
        compare("behind undo", answers(curves), squares);
        curves.set(0, 2, 2, 3);
        curves.set(0, 1, 0, 2);
        curves.set(0, 0, 1, 1);
        curves.set(0, 0, 0, 4);
        curves.set(1, 2, 0, 1);
        curves.set(1, 0, 2, 5);
        curves.set(1, 0, 0, 2);
        compare("behind set", answers(curves), rich);
        curves.set(0, 0, 0, 31);
        read(curves, 0, "1+");
        curves.were(0, 1, 1, 2, 3, 4);
        curves.degree(2, 3, 1);
        compare("behind what changes nothing", answers(curves), rich);
    }

    private static long[] answers(KeptCurves curves) {
        curves.tell(2, 3);
        curves.plan(-1, 0);
        curves.plan(0, 3);
        long[] answers = {
            curves.kept(2, 3), curves.swap(0, 2, 3), curves.swap(1, 2, 3), curves.row(0, 2, 1), curves.pinched(0),
            curves.pinched(1), curves.behind(2, 3, 1), curves.behind(2, 3, -1), curves.period(2, 3), curves.fibre(5, -1),
            curves.fibre(5, 3), curves.base(0), curves.rank(0), curves.rank(7), curves.cycles(26, 0), curves.cycles(26, 1),
            curves.cycles(1, 10), curves.cycles(31, 51), curves.degree(1, 3, 1), curves.moved(0), curves.grows(9),
            curves.odds(4, 3, 30, 0), curves.ends(2, 3)
        };
        curves.forget(2, 3);
        return answers;
    }

    private static void compare(String when, long[] got, long[] want) {
        for (int i = 0; i < want.length; i++) {
            due(2, "answer " + i + " " + when, got[i], want[i]);
        }
    }

    /** Every int may come to every place; nothing may be thrown, and wrong calls change nothing. */
    private static void farOut() {
        int[] far = {MIN, MIN + 1, -1024, -33, -32, -31, -8, -3, -2, -1, 32, 33, 64, 128, 1023, 1024, 1 << 16, MAX - 1, MAX};
        KeptCurves curves = rich();
        for (int v : far) {
            curves.set(v, 0, 0, 1);
            curves.set(0, v, 0, 1);
            curves.set(0, 0, v, 1);
            curves.value(0, v, v);
            curves.swap(0, v, 1);
            curves.swap(1, 1, v);
            curves.row(0, v, 0);
            curves.row(0, 0, v);
            curves.behind(0, 0, v);
            curves.cycles(v, 0);
            curves.cycles(0, v == -1 ? 3 : v);
            curves.degree(v, v, 0);
            curves.forget(v, v);
            curves.told(v);
            curves.moved(v);
            curves.grows(v);
            curves.odds(0, v, 30, 0);
            curves.ends(v, 0);
            curves.paper(v);
            curves.judge(v, v, v);
            curves.list(v, v);
            curves.put(v, v, v);
            curves.get(v, v);
        }
        compare("behind calls far out", answers(curves), answers(rich()));
    }
}
