import java.util.ArrayList;
import java.util.Arrays;
import java.util.HashSet;
import java.util.LinkedHashSet;
import java.util.List;
import java.util.Map;
import java.util.Random;
import java.util.Set;
import java.util.TreeMap;
import java.util.TreeSet;
import java.util.regex.Matcher;
import java.util.regex.Pattern;

/** Long runs of drawn calls (fixed seeds): each answer is held against a slow, plain reading of the document. */
public final class ModelRuns {
    private static final int RUNS = 260;
    private static final int CALLS = 512;
    private static final long NO = Long.MIN_VALUE;
    private static final String[] CALL_NAMES = {
        "set", "of", "feed", "table", "value", "kept", "swap", "row", "pinched", "behind", "period", "fibre",
        "base", "rank", "cycles", "degree", "tell", "forget", "told", "moved", "move", "grows", "were", "odds",
        "plan", "ends", "write", "paper", "judge", "list", "put", "get", "image", "undo", "count"
    };

    private static int wrong = 0;
    /**
     * By call: which kinds of answers have been seen, so that a run that draws nothing of a kind is found out.
     * (period's NOT is not among them: what a pinched line throws together is lost soon, so no tables are known for it.)
     */
    private static final Map<String, Set<String>> seen = new TreeMap<>();

    public static void main(String[] args) {
        for (int run = 0; run < RUNS && wrong < 20; run++) {
            new Run(run).go();
        }
        for (String needed : ("set:-1 set:-2 set:0 set:+ of:-1 of:+ feed:-2 feed:-4 feed:+ table:-1 table:fault table:+"
                + " value:-1 value:0 value:+ kept:-1 kept:-6 kept:+ swap:-1 swap:-7 swap:+ row:-1 row:+ pinched:no"
                + " pinched:0 pinched:+ behind:-1 behind:-2 behind:-7 behind:+ period:-1 period:-7 period:+"
                + " fibre:-1 fibre:-5 fibre:+ base:-5 base:+ rank:-1 rank:+ cycles:-1 cycles:-5 cycles:0 cycles:+"
                + " degree:-1 degree:-2 degree:-7 degree:0 degree:+ tell:-1 tell:-3 tell:-4 tell:+ forget:-1 forget:-3"
                + " forget:+ told:-5 told:+ moved:-5 moved:0 moved:+ move:0 move:+ grows:-2 grows:+ were:no were:0 were:+"
                + " odds:no odds:0 odds:+ plan:-1 plan:-2 plan:-4 plan:+ ends:-1 ends:+ write:-1 write:0 write:+"
                + " paper:-1 paper:+ judge:-1 judge:-11 judge:-5 judge:0 judge:+ list:-1 list:-2 list:-14 list:+"
                + " put:-1 put:-11 put:-13 put:+ get:no get:+ image:+ undo:-3 undo:+ count:-2 count:+").split(" ")) {
            String[] parts = needed.split(":");
            if (!seen.getOrDefault(parts[0], Set.of()).contains(parts[1])) {
                wrong++;
                System.out.println("ModelRuns: no call was drawn that answers " + needed);
            }
        }
        System.out.println(wrong == 0 ? "ModelRuns: all answers are as due" : "ModelRuns: " + wrong + " are not as due");
        if (wrong != 0) {
            System.exit(1);
        }
    }

    private static String kind(String name, long answer) {
        if (answer == NO) {
            return "no";
        }
        if (name.equals("table") && answer <= -100) {
            return "fault";
        }
        return answer > 0 ? "+" : Long.toString(answer);
    }

    /** One object, at most 512 calls. */
    private static final class Run {
        final int number;
        final Random random;
        final KeptCurves object = new KeptCurves();
        final Model model = new Model();
        int calls = 0;

        Run(int number) {
            this.number = number;
            random = new Random(7919L * number + 5);
        }

        void due(String call, long got, long want) {
            calls++;
            String name = call.substring(0, call.indexOf('('));
            seen.computeIfAbsent(name, n -> new TreeSet<>()).add(kind(name, want));
            if (got != want) {
                wrong++;
                System.out.println("ModelRuns run " + number + " call " + calls + ": " + call + " answered " + got
                    + ", due is " + want + " with tables " + Arrays.deepToString(model.numbers));
            }
        }

        void go() {
            tables();
            int turn = 0;
            while (calls < CALLS && wrong < 20) {
                if (turn % 100 == 99 && calls < CALLS - 30) {
                    tables();
                }
                turn++;
                call(CALL_NAMES[random.nextInt(CALL_NAMES.length)]);
            }
        }

        /** Mostly in the bounds, at times on the edge, at times far out. */
        int about(int low, int high) {
            int die = random.nextInt(40);
            if (die == 0) {
                return low - 1;
            }
            if (die == 1) {
                return high + 1;
            }
            if (die == 2) {
                int[] far = {Integer.MIN_VALUE, Integer.MAX_VALUE, -77, 1000, 64};
                return far[random.nextInt(far.length)];
            }
            if (die == 3) {
                return low;
            }
            if (die == 4) {
                return high;
            }
            return low + random.nextInt(high - low + 1);
        }

        int coordinate() {
            return random.nextInt(8) == 0 ? 31 : about(0, 31);
        }

        void tables() {
            int[][][] drawn = new int[2][3][3];
            int style = (number + calls / 60) % 12;
            int[][] f = new int[4][3];
            for (int[] row : f) {
                for (int i = 0; i < 3; i++) {
                    row[i] = random.nextInt(3) == 0 ? 0 : random.nextInt(31);
                }
            }
            int scale = random.nextInt(31);
            for (int t = 0; t < 2; t++) {
                for (int i = 0; i < 3; i++) {
                    for (int j = 0; j < 3; j++) {
                        int any = random.nextInt(31);
                        switch (style) {
                            case 0: case 1: case 2: drawn[t][i][j] = any; break;
                            case 3: case 4: case 5: drawn[t][i][j] = random.nextInt(3) == 0 ? any : 0; break;
                            case 6: drawn[t][i][j] = f[2 * t][i] * f[2 * t + 1][j] % 31; break;
                            case 7: drawn[t][i][j] = t == 0 ? any : drawn[0][i][j] * scale % 31; break;
                            case 8: drawn[t][i][j] = i == 2 ? 0 : any; break;
                            case 9: drawn[t][i][j] = j == 0 ? 0 : any; break;
                            case 10: drawn[t][i][j] = j > i ? any : drawn[t][j][i]; break;
                            default: drawn[t][i][j] = random.nextInt(5) == 0 ? 1 : 0; break;
                        }
                    }
                }
            }
            for (int t = 0; t < 2; t++) {
                for (int i = 0; i < 3; i++) {
                    for (int j = 0; j < 3; j++) {
                        int v = drawn[t][i][j];
                        if (model.numbers[t][i][j] != v) {
                            due("set(" + t + "," + i + "," + j + "," + v + ")", object.set(t, i, j, v), model.set(t, i, j, v));
                        }
                    }
                }
            }
        }

        String text() {
            StringBuilder text = new StringBuilder();
            int terms = 1 + random.nextInt(random.nextInt(6) == 0 ? 14 : 5);
            for (int n = 0; n < terms; n++) {
                text.append(n == 0 ? "" : "+").append(1 + random.nextInt(30));
                text.append("xx", 0, random.nextInt(3)).append("yy", 0, random.nextInt(3));
            }
            for (int spoil = random.nextInt(3); spoil > 0; spoil--) {
                int place = random.nextInt(text.length() + 1);
                text.insert(place, "0123456789xy+ A".charAt(random.nextInt(15)));
            }
            if (random.nextInt(8) == 0) {
                text.setLength(random.nextInt(text.length()));
            }
            return text.toString();
        }

        void feed(int letter) {
            due("feed(" + letter + ")", object.feed(letter), model.feed(letter));
        }

        void call(String name) {
            int x = coordinate();
            int y = coordinate();
            switch (name) {
                case "set": {
                    int t = about(0, 1), i = about(0, 2), j = about(0, 2), v = about(0, 30);
                    due("set(" + t + "," + i + "," + j + "," + v + ")", object.set(t, i, j, v), model.set(t, i, j, v));
                    break;
                }
                case "of": {
                    int t = about(0, 1), i = about(0, 2), j = about(0, 2);
                    due("of(" + t + "," + i + "," + j + ")", object.of(t, i, j), model.of(t, i, j));
                    break;
                }
                case "feed": feed(about(1, 127)); break;
                case "table": {
                    int t = about(0, 1);
                    String text = random.nextInt(3) == 0 ? text() : "";
                    for (int n = 0; n < text.length() && calls < CALLS - 1; n++) {
                        feed(text.charAt(n));
                    }
                    due("table(" + t + ")", object.table(t), model.table(t));
                    break;
                }
                case "value": {
                    int t = about(0, 1);
                    due("value(" + t + "," + x + "," + y + ")", object.value(t, x, y), model.value(t, x, y));
                    break;
                }
                case "kept": due("kept(" + x + "," + y + ")", object.kept(x, y), model.kept(x, y)); break;
                case "swap": {
                    int w = about(0, 1);
                    due("swap(" + w + "," + x + "," + y + ")", object.swap(w, x, y), model.swap(w, x, y));
                    break;
                }
                case "row": {
                    int w = about(0, 1), what = about(0, 2);
                    due("row(" + w + "," + x + "," + what + ")", object.row(w, x, what), model.row(w, x, what));
                    break;
                }
                case "pinched": {
                    int w = about(0, 1);
                    due("pinched(" + w + ")", object.pinched(w), model.pinched(w));
                    break;
                }
                case "behind": {
                    int n = random.nextBoolean() ? about(-99, 99) : about(-3, 3);
                    due("behind(" + x + "," + y + "," + n + ")", object.behind(x, y, n), model.behind(x, y, n));
                    break;
                }
                case "period": due("period(" + x + "," + y + ")", object.period(x, y), model.period(x, y)); break;
                case "fibre": {
                    int i = random.nextInt(3) == 0 ? -1 : about(-1, 45);
                    due("fibre(" + x + "," + i + ")", object.fibre(x, i), model.fibre(x, i));
                    break;
                }
                case "base": {
                    int i = random.nextInt(3) == 0 ? -1 : about(-1, 6);
                    due("base(" + i + ")", object.base(i), model.base(i));
                    break;
                }
                case "rank": {
                    int i = about(0, 31);
                    due("rank(" + i + ")", object.rank(i), model.rank(i));
                    break;
                }
                case "cycles": {
                    int[] whats = {0, 1, 2, about(10, 15), about(50, 55), about(10, 49), about(50, 89), about(0, 95)};
                    int what = whats[random.nextInt(whats.length)];
                    due("cycles(" + x + "," + what + ")", object.cycles(x, what), model.cycles(x, what));
                    break;
                }
                case "degree": {
                    int n = random.nextInt(3) == 0 ? 3 : about(0, 2), w = about(0, 1);
                    due("degree(" + n + "," + y + "," + w + ")", object.degree(n, y, w), model.degree(n, y, w));
                    break;
                }
                case "tell": tell(x, y); break;
                case "forget": {
                    int s = spot(x, y);
                    int fx = s >= 0 ? s / 32 : x, fy = s >= 0 ? s % 32 : y;
                    due("forget(" + fx + "," + fy + ")", object.forget(fx, fy), model.forget(fx, fy));
                    break;
                }
                case "told": {
                    int i = about(0, 8);
                    due("told(" + i + ")", object.told(i), model.told(i));
                    break;
                }
                case "moved": {
                    int i = about(-1, 6);
                    due("moved(" + i + ")", object.moved(i), model.moved(i));
                    break;
                }
                case "move": {
                    due("move()", object.move(), model.move());
                    for (int n = random.nextInt(14); n > 0 && calls < CALLS - 1; n--) {
                        tell(coordinate(), coordinate());
                    }
                    break;
                }
                case "grows": {
                    int n = about(0, 40);
                    due("grows(" + n + ")", object.grows(n), model.grows(n));
                    break;
                }
                case "were": {
                    int t = about(0, 1), i = about(0, 2), j = about(0, 2), k = coordinate();
                    due("were(" + t + "," + i + "," + j + "," + x + "," + y + "," + k + ")",
                        object.were(t, i, j, x, y, k), model.were(t, i, j, x, y, k));
                    break;
                }
                case "odds": {
                    int seed = random.nextInt(5) == 0 ? Integer.MAX_VALUE - random.nextInt(9) : random.nextInt();
                    int m = about(1, 30), part = about(0, 1);
                    int k = random.nextBoolean() ? model.likely() : x;
                    due("odds(" + k + "," + seed + "," + m + "," + part + ")",
                        object.odds(k, seed, m, part), model.odds(k, seed, m, part));
                    break;
                }
                case "plan": {
                    for (int n = random.nextInt(4); n >= 0 && calls < CALLS; n--) {
                        int what = random.nextInt(12) == 0 ? -1 : about(0, 3);
                        int v = random.nextInt(4) == 0 ? about(0, 1) : about(1, 9);
                        due("plan(" + what + "," + v + ")", object.plan(what, v), model.plan(what, v));
                    }
                    break;
                }
                case "ends": due("ends(" + x + "," + y + ")", object.ends(x, y), model.ends(x, y)); break;
                case "write": {
                    int t = about(0, 1);
                    due("write(" + t + ")", object.write(t), model.write(t));
                    for (int i = -1; i <= model.paper.length() && i < 9 && calls < CALLS; i++) {
                        due("paper(" + i + ")", object.paper(i), model.paper(i));
                    }
                    break;
                }
                case "paper": {
                    int i = about(0, 44);
                    due("paper(" + i + ")", object.paper(i), model.paper(i));
                    break;
                }
                case "judge": judge(x, y); break;
                case "list": {
                    int l = about(0, 3), n = about(0, 12);
                    due("list(" + l + "," + n + ")", object.list(l, n), model.list(l, n));
                    break;
                }
                case "put": {
                    int l = about(0, 3), i = about(0, 11), v = random.nextBoolean() ? random.nextInt() : about(0, 31);
                    due("put(" + l + "," + i + "," + v + ")", object.put(l, i, v), model.put(l, i, v));
                    break;
                }
                case "get": {
                    int l = about(0, 3), i = about(0, 11);
                    due("get(" + l + "," + i + ")", object.get(l, i), model.get(l, i));
                    break;
                }
                case "image": {
                    if (random.nextBoolean()) {
                        due("image()", object.image(), model.image());
                    }
                    break;
                }
                case "undo": due("undo()", object.undo(), model.undo()); break;
                default: {
                    int what = about(0, 4);
                    due("count(" + what + ")", object.count(what), model.count(what));
                }
            }
        }

        void tell(int x, int y) {
            int s = random.nextInt(6) == 0 ? spot(x, y) : -1;
            int tx = s >= 0 ? s / 32 : x, ty = s >= 0 ? s % 32 : y;
            due("tell(" + tx + "," + ty + ")", object.tell(tx, ty), model.tell(tx, ty));
        }

        /** A spot of the set, at times. */
        int spot(int x, int y) {
            if (model.set.isEmpty() || random.nextInt(3) == 0) {
                return -1;
            }
            List<Integer> all = new ArrayList<>(model.set);
            return all.get(random.nextInt(all.size()));
        }

        /** A list that is right up to some place is put together first, at times. */
        void judge(int x, int y) {
            int l = about(0, 3);
            if (random.nextInt(3) > 0 && l >= 0 && l < 4 && x >= 0 && x < 32 && y >= 0 && y < 32 && calls < CALLS - 16) {
                int n = random.nextInt(13);
                due("list(" + l + "," + n + ")", object.list(l, n), model.list(l, n));
                int spoilt = random.nextInt(16);
                for (int i = 0; i < n; i++) {
                    int s = model.behind(x, y, i / 2 + 1);
                    int v = (s < 0 ? -1 : i % 2 == 0 ? s / 32 : s % 32) + (i == spoilt ? 1 : 0);
                    due("put(" + l + "," + i + "," + v + ")", object.put(l, i, v), model.put(l, i, v));
                }
            }
            due("judge(" + l + "," + x + "," + y + ")", object.judge(l, x, y), model.judge(l, x, y));
        }
    }

    /** The document read plainly: nothing is kept ready that a table could have changed. */
    private static final class Model {
        private static final Pattern TEXT = term("", "(\\+", ")*");
        int[][][] numbers = new int[2][3][3];
        TreeSet<Integer> set = new TreeSet<>();
        List<int[]> plan = new ArrayList<>();
        final StringBuilder tape = new StringBuilder();
        String paper = "";
        final int[][] lists = new int[4][];
        int[][][] imageNumbers = null;
        TreeSet<Integer> imageSet = null;
        List<int[]> imagePlan = null;
        /** The tables of which 'all' tells KEPT. */
        int[][][] allOf = null;
        final int[] all = new int[1024];

        static Pattern term(String ahead, String plus, String behind) {
            String term = "(?:[1-9]|[12][0-9]|30)(?:x|xx)?(?:y|yy)?";
            return Pattern.compile(ahead + term + plus + term + behind);
        }

        static boolean in(int low, int v, int high) {
            return low <= v && v <= high;
        }

        static boolean isSpot(int x, int y) {
            return in(0, x, 31) && in(0, y, 31);
        }

        static boolean isPower(int t, int i, int j) {
            return in(0, t, 1) && in(0, i, 2) && in(0, j, 2);
        }

        static int[][][] copy(int[][][] numbers) {
            int[][][] other = new int[2][3][3];
            for (int t = 0; t < 2; t++) {
                for (int i = 0; i < 3; i++) {
                    other[t][i] = numbers[t][i].clone();
                }
            }
            return other;
        }

        /** A coordinate is top by bottom; endless is 1 by 0. */
        static int power(int c, int n) {
            int product = 1;
            for (int s = 0; s < n; s++) {
                product = product * (c == 31 ? 1 : c) % 31;
            }
            for (int s = n; s < 2; s++) {
                product = product * (c == 31 ? 0 : 1);
            }
            return product;
        }

        static int by(int u, int v) {
            int above = ((u % 31) + 31) % 31, below = ((v % 31) + 31) % 31;
            if (below == 0) {
                return above == 0 ? -6 : 31;
            }
            int answer = 0;
            while (answer * below % 31 != above) {
                answer++;
            }
            return answer;
        }

        int set(int t, int i, int j, int v) {
            if (!isPower(t, i, j)) {
                return -1;
            }
            if (!in(0, v, 30)) {
                return -2;
            }
            int was = numbers[t][i][j];
            numbers[t][i][j] = v;
            return was;
        }

        int of(int t, int i, int j) {
            return isPower(t, i, j) ? numbers[t][i][j] : -1;
        }

        int feed(int letter) {
            if (!in(1, letter, 127)) {
                return -2;
            }
            if (tape.length() == 60) {
                return -4;
            }
            return tape.append((char) letter).length();
        }

        int table(int t) {
            if (!in(0, t, 1)) {
                return -1;
            }
            String text = tape.toString();
            tape.setLength(0);
            for (int length = 1; length <= text.length(); length++) {
                Matcher matcher = TEXT.matcher(text.substring(0, length));
                if (!matcher.matches() && !matcher.hitEnd()) {
                    return -100 - (length - 1);
                }
            }
            if (!TEXT.matcher(text).matches()) {
                return -100 - text.length();
            }
            numbers[t] = new int[3][3];
            String[] terms = text.split("\\+");
            for (String term : terms) {
                int i = (int) term.chars().filter(c -> c == 'x').count();
                int j = (int) term.chars().filter(c -> c == 'y').count();
                int v = Integer.parseInt(term.replaceAll("[xy]", ""));
                numbers[t][i][j] = (numbers[t][i][j] + v) % 31;
            }
            return terms.length;
        }

        int value(int t, int x, int y) {
            if (!in(0, t, 1) || !isSpot(x, y)) {
                return -1;
            }
            int sum = 0;
            for (int i = 0; i < 3; i++) {
                for (int j = 0; j < 3; j++) {
                    sum += numbers[t][i][j] * power(x, i) * power(y, j);
                }
            }
            return sum % 31;
        }

        int kept(int x, int y) {
            return isSpot(x, y) ? by(value(0, x, y), value(1, x, y)) : -1;
        }

        int sum(int which, int t, int n, int c) {
            int sum = 0;
            for (int m = 0; m < 3; m++) {
                sum += power(c, m) * (which == 0 ? numbers[t][n][m] : numbers[t][m][n]);
            }
            return sum % 31;
        }

        int row(int which, int c, int what) {
            if (!in(0, which, 1) || !in(0, c, 31) || !in(0, what, 2)) {
                return -1;
            }
            int high = what == 2 ? 1 : 2, low = what == 0 ? 1 : 0;
            int cross = sum(which, 0, high, c) * sum(which, 1, low, c) - sum(which, 0, low, c) * sum(which, 1, high, c);
            return (cross % 31 + 31) % 31;
        }

        int swap(int which, int x, int y) {
            if (!in(0, which, 1) || !isSpot(x, y)) {
                return -1;
            }
            int line = which == 0 ? y : x, c = which == 0 ? x : y;
            int p = row(which, line, 0), q = row(which, line, 1), r = row(which, line, 2);
            int top = c == 31 ? 1 : c, bottom = c == 31 ? 0 : 1;
            int answer = by(-q * top - r * bottom, p * top + q * bottom);
            return answer == -6 ? -7 : answer;
        }

        long pinched(int which) {
            if (!in(0, which, 1)) {
                return NO;
            }
            long bits = 0;
            for (int c = 31; c >= 0; c--) {
                bits *= 2;
                int p = row(which, c, 0), q = row(which, c, 1), r = row(which, c, 2);
                bits += q * q % 31 == p * r % 31 ? 1 : 0;
            }
            return bits;
        }

        int step(int s) {
            int x = swap(0, s / 32, s % 32);
            if (x < 0) {
                return -7;
            }
            int y = swap(1, x, s % 32);
            return y < 0 ? -7 : 32 * x + y;
        }

        int back(int s) {
            int y = swap(1, s / 32, s % 32);
            if (y < 0) {
                return -7;
            }
            int x = swap(0, s / 32, y);
            return x < 0 ? -7 : 32 * x + y;
        }

        int behind(int x, int y, int n) {
            if (!isSpot(x, y)) {
                return -1;
            }
            if (!in(-99, n, 99)) {
                return -2;
            }
            int s = 32 * x + y;
            for (int m = 0; m < Math.abs(n); m++) {
                s = n > 0 ? step(s) : back(s);
                if (s < 0) {
                    return -7;
                }
            }
            return s;
        }

        int period(int x, int y) {
            if (!isSpot(x, y)) {
                return -1;
            }
            int s = 32 * x + y;
            Set<Integer> passed = new HashSet<>();
            while (passed.add(s)) {
                s = step(s);
                if (s < 0) {
                    return -7;
                }
            }
            return s == 32 * x + y ? passed.size() : -5;
        }

        int[] all() {
            if (!Arrays.deepEquals(allOf, numbers)) {
                allOf = copy(numbers);
                for (int s = 0; s < 1024; s++) {
                    all[s] = kept(s / 32, s % 32);
                }
            }
            return all;
        }

        List<Integer> spots(int k) {
            List<Integer> spots = new ArrayList<>();
            for (int s = 0; s < 1024; s++) {
                if (all()[s] == k) {
                    spots.add(s);
                }
            }
            return spots;
        }

        static int pick(List<Integer> from, int i) {
            return i == -1 ? from.size() : in(0, i, from.size() - 1) ? from.get(i) : -5;
        }

        int fibre(int k, int i) {
            return in(0, k, 31) ? pick(spots(k), i) : -1;
        }

        int base(int i) {
            return pick(spots(-6), i);
        }

        List<Integer> ranks() {
            int[] sizes = new int[32];
            for (int k : all()) {
                if (k >= 0) {
                    sizes[k]++;
                }
            }
            List<Integer> ranks = new ArrayList<>();
            for (int k = 0; k < 32; k++) {
                ranks.add(k);
            }
            ranks.sort((one, other) -> sizes[other] - sizes[one]);
            return ranks;
        }

        int likely() {
            return ranks().get(0);
        }

        int rank(int i) {
            return in(0, i, 31) ? ranks().get(i) : -1;
        }

        int cycles(int k, int what) {
            if (!in(0, k, 31) || !(in(0, what, 2) || in(10, what, 89))) {
                return -1;
            }
            Set<Set<Integer>> cycles = new LinkedHashSet<>();
            for (int s : spots(k)) {
                TreeSet<Integer> cycle = new TreeSet<>();
                int now = s;
                while (now >= 0 && cycle.add(now)) {
                    now = step(now);
                }
                if (now == s) {
                    cycles.add(cycle);
                }
            }
            TreeMap<Integer, Integer> byLength = new TreeMap<>();
            int spots = 0;
            for (Set<Integer> cycle : cycles) {
                byLength.merge(cycle.size(), 1, Integer::sum);
                spots += cycle.size();
            }
            if (what < 3) {
                return what == 0 ? cycles.size() : what == 1 ? spots : byLength.size();
            }
            List<Integer> lengths = new ArrayList<>(byLength.keySet());
            int i = what < 50 ? what - 10 : what - 50;
            if (i >= lengths.size()) {
                return -5;
            }
            return what < 50 ? lengths.get(i) : byLength.get(lengths.get(i));
        }

        static int[] times(int[] one, int[] other) {
            int[] product = new int[one.length + other.length - 1];
            for (int i = 0; i < one.length; i++) {
                for (int j = 0; j < other.length; j++) {
                    product[i + j] = (product[i + j] + one[i] * other[j]) % 31;
                }
            }
            return product;
        }

        static int[] plus(int[] one, int[] other, int factor) {
            int[] sum = Arrays.copyOf(one, Math.max(one.length, other.length));
            for (int i = 0; i < other.length; i++) {
                sum[i] = Math.floorMod(sum[i] + factor * other[i], 31);
            }
            return sum;
        }

        static int degreeOf(int[] one) {
            int degree = one.length - 1;
            while (degree >= 0 && one[degree] == 0) {
                degree--;
            }
            return degree;
        }

        static int[] common(int[] one, int[] other) {
            int[] a = one.clone(), b = other.clone();
            while (degreeOf(b) >= 0) {
                while (degreeOf(a) >= degreeOf(b)) {
                    int factor = by(a[degreeOf(a)], b[degreeOf(b)]);
                    int shift = degreeOf(a) - degreeOf(b);
                    for (int i = 0; i <= degreeOf(b); i++) {
                        a[shift + i] = Math.floorMod(a[shift + i] - factor * b[i], 31);
                    }
                }
                int[] rest = a;
                a = b;
                b = rest;
            }
            return a;
        }

        /** Nothing is taken away on the way: that is done once, at the end. */
        int[][] swapFractions(int which, int[][] c, int[][] line) {
            int[][] squares = {times(line[1], line[1]), times(line[0], line[1]), times(line[0], line[0])};
            int[][][] rows = new int[2][3][];
            for (int t = 0; t < 2; t++) {
                for (int n = 0; n < 3; n++) {
                    rows[t][n] = new int[] {0};
                    for (int m = 0; m < 3; m++) {
                        rows[t][n] = plus(rows[t][n], squares[m], which == 0 ? numbers[t][n][m] : numbers[t][m][n]);
                    }
                }
            }
            int[] p = plus(times(rows[0][2], rows[1][1]), times(rows[0][1], rows[1][2]), -1);
            int[] q = plus(times(rows[0][2], rows[1][0]), times(rows[0][0], rows[1][2]), -1);
            int[] r = plus(times(rows[0][1], rows[1][0]), times(rows[0][0], rows[1][1]), -1);
            int[] u = plus(new int[] {0}, plus(times(q, c[0]), times(r, c[1]), 1), -1);
            int[] v = plus(times(p, c[0]), times(q, c[1]), 1);
            if (degreeOf(u) < 0 && degreeOf(v) < 0) {
                return null;
            }
            return new int[][] {Arrays.copyOf(u, Math.max(1, degreeOf(u) + 1)), Arrays.copyOf(v, Math.max(1, degreeOf(v) + 1))};
        }

        int degree(int n, int y, int which) {
            if (!in(0, which, 1) || !in(0, y, 30)) {
                return -1;
            }
            if (!in(0, n, 3)) {
                return -2;
            }
            int[][] fx = {{0, 1}, {1}}, fy = {{y}, {1}};
            for (int s = 0; s < n; s++) {
                fx = swapFractions(0, fx, fy);
                fy = fx == null ? null : swapFractions(1, fy, fx);
                if (fy == null) {
                    return -7;
                }
            }
            int[][] f = which == 0 ? fx : fy;
            if (degreeOf(f[0]) < 0 || degreeOf(f[1]) < 0) {
                return 0;
            }
            return Math.max(degreeOf(f[0]), degreeOf(f[1])) - degreeOf(common(f[0], f[1]));
        }

        int tell(int x, int y) {
            if (!isSpot(x, y)) {
                return -1;
            }
            if (set.contains(32 * x + y)) {
                return -3;
            }
            if (set.size() == 12) {
                return -4;
            }
            set.add(32 * x + y);
            return set.size();
        }

        int forget(int x, int y) {
            if (!isSpot(x, y)) {
                return -1;
            }
            return set.remove(32 * x + y) ? set.size() : -3;
        }

        int told(int i) {
            return i == -1 ? -5 : pick(new ArrayList<>(set), i);
        }

        TreeSet<Integer> stepped(Set<Integer> from) {
            TreeSet<Integer> to = new TreeSet<>();
            for (int s : from) {
                to.add(step(s));
            }
            to.remove(-7);
            return to;
        }

        int moved(int i) {
            return pick(new ArrayList<>(stepped(set)), i);
        }

        int move() {
            set = stepped(set);
            return set.size();
        }

        int grows(int n) {
            if (!in(0, n, 40)) {
                return -2;
            }
            TreeSet<Integer> grown = new TreeSet<>(set);
            for (int s = 0; s < n; s++) {
                grown.addAll(stepped(grown));
            }
            return grown.size();
        }

        long were(int t, int i, int j, int x, int y, int k) {
            if (!isPower(t, i, j) || !isSpot(x, y) || !in(0, k, 31)) {
                return NO;
            }
            int was = numbers[t][i][j];
            long bits = 0;
            for (int v = 0; v < 31; v++) {
                numbers[t][i][j] = v;
                bits += kept(x, y) == k ? 1L << v : 0;
            }
            numbers[t][i][j] = was;
            return bits;
        }

        long odds(int k, int seed, int m, int part) {
            if (!in(0, k, 31) || !in(1, m, 30) || !in(0, part, 1)) {
                return NO;
            }
            int hits = 0;
            for (int s = 0; s < m; s++) {
                int z = (seed + s) * 1103515245 + 12345;
                int x = (z >>> 16) % 32;
                z = z * 1103515245 + 12345;
                hits += kept(x, (z >>> 16) % 32) == k ? 1 : 0;
            }
            int above = hits, below = m;
            for (int d = 2; d <= 30; d++) {
                while (above % d == 0 && below % d == 0) {
                    above /= d;
                    below /= d;
                }
            }
            return part == 0 ? above : below;
        }

        int plan(int what, int v) {
            if (what == -1) {
                plan.clear();
                return 0;
            }
            if (!in(0, what, 3)) {
                return -1;
            }
            if (what < 2 && !in(1, v, 9) || what == 2 && !in(0, v, 1)) {
                return -2;
            }
            if (plan.size() == 8) {
                return -4;
            }
            plan.add(new int[] {what, v});
            return plan.size();
        }

        int ends(int x, int y) {
            if (!isSpot(x, y)) {
                return -1;
            }
            int s = 32 * x + y;
            for (int[] row : plan) {
                if (row[0] == 3) {
                    s = 32 * (s % 32) + s / 32;
                } else if (row[0] == 2) {
                    int c = swap(row[1], s / 32, s % 32);
                    s = c < 0 ? s : row[1] == 0 ? 32 * c + s % 32 : s / 32 * 32 + c;
                } else {
                    for (int n = 0; n < row[1]; n++) {
                        int next = row[0] == 0 ? step(s) : back(s);
                        s = next < 0 ? s : next;
                    }
                }
            }
            return s;
        }

        int write(int t) {
            if (!in(0, t, 1)) {
                return -1;
            }
            List<String> terms = new ArrayList<>();
            for (int place = 8; place >= 0; place--) {
                int v = numbers[t][place / 3][place % 3];
                if (v != 0) {
                    terms.add(v + "x".repeat(place / 3) + "y".repeat(place % 3));
                }
            }
            paper = String.join("+", terms);
            return paper.length();
        }

        int paper(int i) {
            return in(0, i, paper.length() - 1) ? paper.charAt(i) : -1;
        }

        int judge(int l, int x, int y) {
            if (!in(0, l, 3) || !isSpot(x, y)) {
                return -1;
            }
            if (lists[l] == null) {
                return -11;
            }
            for (int i = 0; i < lists[l].length; i++) {
                int s = behind(x, y, i / 2 + 1);
                if (lists[l][i] != (s < 0 ? -1 : i % 2 == 0 ? s / 32 : s % 32)) {
                    return i;
                }
            }
            return -5;
        }

        int list(int l, int n) {
            if (!in(0, l, 3)) {
                return -1;
            }
            if (n > 12) {
                return -2;
            }
            if (n < 0) {
                return -14;
            }
            lists[l] = new int[n];
            return 1;
        }

        int put(int l, int i, int v) {
            if (!in(0, l, 3)) {
                return -1;
            }
            if (lists[l] == null) {
                return -11;
            }
            if (!in(0, i, lists[l].length - 1)) {
                return -13;
            }
            lists[l][i] = v;
            return 1;
        }

        long get(int l, int i) {
            return in(0, l, 3) && lists[l] != null && in(0, i, lists[l].length - 1) ? lists[l][i] : NO;
        }

        int image() {
            imageNumbers = copy(numbers);
            imageSet = new TreeSet<>(set);
            imagePlan = new ArrayList<>(plan);
            return set.size();
        }

        int undo() {
            if (imageNumbers == null) {
                return -3;
            }
            numbers = copy(imageNumbers);
            set = new TreeSet<>(imageSet);
            plan = new ArrayList<>(imagePlan);
            return set.size();
        }

        int count(int what) {
            int[] counts = {set.size(), 0, tape.length(), paper.length(), plan.size()};
            for (int place = 0; place < 18; place++) {
                counts[1] += numbers[place / 9][place / 3 % 3][place % 3] == 0 ? 0 : 1;
            }
            return in(0, what, 4) ? counts[what] : -2;
        }
    }
}
