import java.util.ArrayList;
import java.util.List;

/**
 * What is told follows TABLES as they are now. Each call that rests on them is asked on an object whose TABLES were
 * others, ahead of all else and behind all else, with the change made by set, by table and by undo.
 */
public final class ChangeRuns {
    private static final String[] RICH = {"3xxyy+2x+1y+4", "1xx+5yy+2"};
    private static final String[] WHOLE = {"30+28xxyy+8xyy+14xy+16xx+21yy", "20xy+10y+2xx+10yy+1x+14"};
    private static final String[] LOSING = {"29xxyy+14y+21", "18xxyy+14xx+15xy+19y+17"};
    private static final String[] STILL = {"1xx+1yy", "1"};
    private static final String[][] TABLES = {RICH, WHOLE, LOSING, STILL};

    private static int wrong = 0;

    private interface Call {
        long on(KeptCurves curves);
    }

    private record Asked(int promise, String name, Call call) { }

    private static final List<Asked> CALLS = new ArrayList<>();

    private static void add(int promise, String name, Call call) {
        CALLS.add(new Asked(promise, name, call));
    }

    private static void addAll() {
        add(3, "of", c -> c.of(0, 2, 2));
        add(6, "value", c -> c.value(0, 2, 3));
        add(7, "kept", c -> c.kept(2, 3));
        add(8, "swap of x", c -> c.swap(0, 2, 3));
        add(8, "swap of y", c -> c.swap(1, 0, 0));
        add(9, "row", c -> c.row(0, 3, 2));
        add(10, "pinched", c -> c.pinched(1));
        add(11, "behind, ahead", c -> c.behind(0, 22, 5));
        add(11, "behind, back", c -> c.behind(28, 6, -1));
        add(12, "period", c -> c.period(0, 11));
        add(13, "fibre, how many", c -> c.fibre(0, -1));
        add(13, "fibre, the first", c -> c.fibre(19, 0));
        add(14, "base, how many", c -> c.base(-1));
        add(14, "base, the first", c -> c.base(0));
        add(15, "rank, the first", c -> c.rank(0));
        add(15, "rank, the last", c -> c.rank(31));
        add(16, "cycles", c -> c.cycles(0, 0));
        add(16, "cycles, SPOTS", c -> c.cycles(8, 1));
        add(16, "cycles, LENGTHS", c -> c.cycles(31, 2));
        add(16, "cycles, the first LENGTH", c -> c.cycles(0, 10));
        add(16, "cycles, how many have it", c -> c.cycles(31, 50));
        add(17, "degree of x", c -> c.degree(2, 30, 0));
        add(17, "degree of y", c -> c.degree(1, 25, 1));
        add(21, "moved", c -> c.moved(0));
        add(22, "move", c -> 100000L * c.move() + 100 * c.told(0) + c.told(1));
        add(23, "grows", c -> c.grows(40));
        add(24, "were", c -> c.were(1, 1, 1, 2, 3, 4) + c.were(0, 0, 0, 0, 0, 0));
        add(25, "odds", c -> 100 * c.odds(c.rank(0), 3, 30, 0) + c.odds(c.rank(0), 3, 30, 1));
        add(27, "ends", c -> c.ends(0, 11));
        add(28, "write", c -> 1000 * c.write(0) + c.paper(0));
        add(30, "judge", c -> c.judge(0, 16, 12));
        add(36, "count", c -> c.count(1));
    }

    public static void main(String[] args) {
        addAll();
        for (Asked asked : CALLS) {
            boolean unlike = false;
            for (String[] first : TABLES) {
                for (String[] then : TABLES) {
                    long want = asked.call.on(made(then));
                    unlike |= want != asked.call.on(made(TABLES[0]));
                    changes(asked, first, then, want);
                }
            }
            if (!unlike) {
                fail(asked, "answers the same for all TABLES: the run shows nothing");
            }
        }
        System.out.println(wrong == 0 ? "ChangeRuns: all answers are as due" : "ChangeRuns: " + wrong + " are not as due");
        if (wrong != 0) {
            System.exit(1);
        }
    }

    private static void fail(Asked asked, String words) {
        wrong++;
        System.out.println("promise " + asked.promise + ", " + asked.name + " " + words);
    }

    private static void is(Asked asked, KeptCurves curves, String when, long want) {
        long got = asked.call.on(curves);
        if (got != want) {
            fail(asked, when + ": answered " + got + ", an object that had no other TABLES " + want);
        }
    }

    private static void changes(Asked asked, String[] first, String[] then, long want) {
        KeptCurves bySet = made(first);
        asked.call.on(bySet);
        held(bySet);
        setAll(bySet, made(then));
        is(asked, bySet, "behind set", want);
        KeptCurves byTable = made(first);
        asked.call.on(byTable);
        held(byTable);
        read(byTable, then);
        is(asked, byTable, "behind table", want);
        KeptCurves byUndo = made(then);
        byUndo.image();
        read(byUndo, first);
        asked.call.on(byUndo);
        byUndo.undo();
        is(asked, byUndo, "behind undo", want);
        KeptCurves behindAll = made(then);
        for (Asked other : CALLS) {
            other.call.on(behindAll);
        }
        held(behindAll);
        is(asked, behindAll, "behind all others", want);
    }

    private static void read(KeptCurves curves, String[] tables) {
        for (int t = 0; t < 2; t++) {
            for (int i = 0; i < tables[t].length(); i++) {
                curves.feed(tables[t].charAt(i));
            }
            curves.table(t);
        }
    }

    private static void setAll(KeptCurves curves, KeptCurves from) {
        for (int place = 0; place < 18; place++) {
            int t = place / 9, i = place / 3 % 3, j = place % 3;
            curves.set(t, i, j, from.of(t, i, j));
        }
    }

    private static KeptCurves made(String[] tables) {
        KeptCurves curves = new KeptCurves();
        read(curves, tables);
        curves.plan(0, 3);
        curves.plan(1, 1);
        curves.list(0, 2);
        held(curves);
        return curves;
    }

    /** THE SET, as move leaves another one. */
    private static void held(KeptCurves curves) {
        for (int i = 0; i < 12 && curves.told(0) >= 0; i++) {
            int spot = curves.told(0);
            curves.forget(spot / 32, spot % 32);
        }
        curves.tell(0, 0);
        curves.tell(0, 22);
        curves.tell(2, 3);
    }
}
