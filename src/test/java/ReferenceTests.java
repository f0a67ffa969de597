import java.math.BigInteger;
import java.util.ArrayList;
import java.util.List;
import java.util.Random;

/**
 * Random runs of calls, each answer held against a slow model that goes by the document's words:
 * fractions without a bound, elimination, powers of tables, and every plan tried in turn.
 */
public final class ReferenceTests extends Help {
    public static void main(String[] args) {
        for (int seed = 0; seed < 1500 && wrong < 20; seed++) {
            new Run(seed).go();
        }
        farStarts();
        greatestNumbers();
        everyPage();
        end("all runs are as the model says");
    }

    /** The greatest states and crooked plants: nothing may wrap around. */
    private static void farStarts() {
        Random random = new Random(77);
        for (int round = 0; round < 3000 && wrong < 20; round++) {
            Run run = new Run(round);
            run.plant("3;2,0,0,0,2,0,0,0,2;1,1,1;0,0,0");
            for (int place = 0; place < 3; place++) {
                int v = random.nextInt(41) - 20;
                run.same("far start", run.x.start(place, v), run.m.start(place, v));
            }
            for (int tick = 0; tick < 20; tick++) {
                run.tick(random.nextInt(3) - 1);
            }
            int[] cells = new int[15];
            for (int what = 0; what < 15; what++) {
                cells[what] = random.nextInt(4) == 0 ? random.nextInt(5) - 2 : random.nextBoolean() ? 2 : -2;
            }
            run.alterAll(cells);
            run.sameWay();
        }
    }

    /** Of all plants, those with the greatest numbers on the way, from each corner of what START can be. */
    private static void greatestNumbers() {
        int[] brought = {2, 2, -2, -2, 2, -2, -2, -2, -2, -2, 2, -2, -2, 2, -2};
        int[] missed = {2, -2, -2, 2, 2, -2, -2, -2, -2, -2, 2, -2, -2, 2, -2};
        for (int corner = 0; corner < 8; corner++) {
            for (int[] cells : new int[][] {brought, missed}) {
                Run run = new Run(corner);
                run.plant("3;2,0,0,0,2,0,0,0,2;" + (1 - (corner & 2)) + "," + (corner > 3 ? -1 : 1) + "," + (1 - 2 * (corner & 1)) + ";1,2,2");
                for (int bit = 19; bit >= 0; bit--) {
                    run.tick(1000000 >> bit & 1);
                }
                run.alterAll(cells);
                run.sameWay();
            }
        }
    }

    /** Pages of up to seven letters, of those that a plant has and one other. */
    private static void everyPage() {
        String letters = "x0123-,;";
        int all = 1;
        for (int length = 1; length <= 7; length++) {
            all *= letters.length();
        }
        for (int number = 0; number < all; number += 1 + number % 3) {
            StringBuilder text = new StringBuilder();
            for (int left = number; left > 0; left /= letters.length()) {
                text.append(letters.charAt(left % letters.length()));
            }
            RestGains x = new RestGains();
            for (int i = 0; i < text.length(); i++) {
                x.letter(text.charAt(i));
            }
            due("fault of " + text, x.fault(), Model.faultOf(text.toString()));
            due("plant of " + text, x.plant(), Model.isPlant(text.toString()) ? text.charAt(0) - '0' : RestGains.STATE);
        }
    }

    private static final class Run {
        private final Random random;
        private final int seed;
        private final RestGains x = new RestGains();
        private final Model m = new Model();
        private int calls = 0;

        Run(int seed) {
            this.seed = seed;
            random = new Random(seed);
        }

        void go() {
            while (calls < 480) {
                step();
            }
            same("digest()", x.digest(), m.digest());
        }

        void plant(String text) {
            for (char c : text.toCharArray()) {
                same("letter " + (int) c, x.letter(c), m.letter(c));
            }
            same("plant of " + text, x.plant(), m.plant());
        }

        void tick(int input) {
            same("tick " + input, x.tick(input), m.tick(input));
        }

        void alterAll(int[] cells) {
            for (int what = 0; what < 15; what++) {
                same("alter " + what + " " + cells[what], x.alter(what, cells[what]), m.alter(what, cells[what]));
            }
        }

        /** BROUGHT, MISSED and the inputs, at each tick and place. */
        void sameWay() {
            same("digest", x.digest(), m.digest());
            for (int i = 0; i < 5 * 3 * 2; i++) {
                int ticks = i / 6;
                int place = i / 2 % 3;
                same("brought", x.after(false, ticks, place, i % 2), m.after(false, ticks, place, i % 2));
                same("missed", x.after(true, ticks, place, i % 2), m.after(true, ticks, place, i % 2));
                same("input", x.input(ticks, i % 2), m.input(ticks, i % 2));
            }
        }

        void same(String call, long got, long want) {
            calls++;
            due("run " + seed + ", call " + calls + ": " + call, got, want);
        }

        private int near(int least, int most) {
            if (random.nextInt(12) == 0) {
                int[] wild = {least - 1, most + 1, Integer.MIN_VALUE, Integer.MAX_VALUE, least - 7, most + 9};
                return wild[random.nextInt(wild.length)];
            }
            return least + random.nextInt(most - least + 1);
        }

        private void step() {
            switch (random.nextInt(18)) {
                case 0: texts(); break;
                case 1: case 2: { int w = near(0, 14), v = near(-2, 2); same("alter " + w + " " + v, x.alter(w, v), m.alter(w, v)); break; }
                case 3: { int w = near(0, 14); same("has " + w, x.has(w), m.has(w)); break; }
                case 4: case 5: { int p = near(0, 2), v = near(-20, 20); same("start " + p + " " + v, x.start(p, v), m.start(p, v)); break; }
                case 6: { int p = near(0, 2), v = near(-3, 3); same("start " + p + " " + v, x.start(p, v), m.start(p, v)); break; }
                case 7: { int v = near(1, random.nextInt(8) == 0 ? 5 : 3); same("limit " + v, x.limit(v), m.limit(v)); break; }
                case 8: { int v = near(-100, 100); same("tick " + v, x.tick(v), m.tick(v)); break; }
                case 9: { boolean b = random.nextBoolean(); int r = near(0, 2), p = near(0, 2); same("row " + b + r + p, x.row(b, r, p), m.row(b, r, p)); break; }
                case 10: { int w = near(0, 5); same("about " + w, x.about(w), m.about(w)); break; }
                case 11: { boolean b = random.nextBoolean(); int p = near(0, 2), t = near(0, 1); same("gain " + b + p + t, x.gain(b, p, t), m.gain(b, p, t)); break; }
                case 12: { boolean b = random.nextBoolean(); int k = near(0, 4), p = near(0, 2), t = near(0, 1); same("after " + b + k + p + t, x.after(b, k, p, t), m.after(b, k, p, t)); break; }
                case 13: { int k = near(0, 4), t = near(0, 1); same("input " + k + t, x.input(k, t), m.input(k, t)); break; }
                case 14: { boolean b = random.nextBoolean(); same("most " + b, x.most(b), m.most(b)); break; }
                case 15: { int w = random.nextInt(3) == 0 ? 0 : near(10, 15); same("plan " + w, x.plan(w), m.plan(w)); break; }
                case 16: { int w = near(0, 4); same("count " + w, x.count(w), m.count(w)); break; }
                default: if (random.nextInt(4) == 0) { same("digest", x.digest(), m.digest()); } break;
            }
        }

        private void texts() {
            String text = someText();
            if (random.nextInt(3) > 0) {
                same("blank", x.blank(), m.blank());
            }
            for (char c : text.toCharArray()) {
                same("letter " + (int) c, x.letter(c), m.letter(c));
            }
            same("fault", x.fault(), m.fault());
            same("plant", x.plant(), m.plant());
        }

        private String someText() {
            int order = 1 + random.nextInt(3);
            StringBuilder text = new StringBuilder().append(order);
            int flat = random.nextInt(4);
            for (int i = 0; i < order * order + 2 * order; i++) {
                boolean opens = i == 0 || i == order * order || i == order * order + order;
                text.append(opens ? ';' : ',').append(random.nextInt(4) < flat ? 0 : random.nextInt(5) - 2);
            }
            if (random.nextInt(5) == 0) {
                int at = random.nextInt(text.length());
                text.setCharAt(at, "0123-,; x~".charAt(random.nextInt(10)));
            }
            if (random.nextInt(8) == 0) {
                text.setLength(random.nextInt(text.length() + 1));
            }
            if (random.nextInt(12) == 0) {
                text.append((char) (25 + random.nextInt(110)));
            }
            return text.toString();
        }
    }

    /** A fraction in lowest terms. */
    private record Part(BigInteger above, BigInteger below) {
        static final Part ZERO = of(0);

        static Part of(long n) {
            return new Part(BigInteger.valueOf(n), BigInteger.ONE);
        }

        static Part lowest(BigInteger a, BigInteger b) {
            BigInteger g = a.gcd(b);
            if (b.signum() < 0) {
                g = g.negate();
            }
            return new Part(a.divide(g), b.divide(g));
        }

        Part plus(Part o) {
            return lowest(above.multiply(o.below).add(o.above.multiply(below)), below.multiply(o.below));
        }

        Part times(Part o) {
            return lowest(above.multiply(o.above), below.multiply(o.below));
        }

        Part over(Part o) {
            return lowest(above.multiply(o.below), below.multiply(o.above));
        }

        Part negated() {
            return new Part(above.negate(), below);
        }

        boolean isZero() {
            return above.signum() == 0;
        }

        long told(int part) {
            return part == 0 ? above.longValueExact() : below.longValueExact();
        }
    }

    /** The document, word by word. */
    private static final class Model {
        private StringBuilder page = new StringBuilder();
        private int order = 0;
        private int[] cells = new int[15];
        private long[] start = new long[3];
        private int limit = 2;
        private int read = 0;
        private int gone = 0;
        private List<Integer> shortest;

        long letter(int code) {
            if (code < 32 || code > 126) {
                return RestGains.OUTSIDE;
            }
            if (page.length() == 46) {
                return RestGains.FULL;
            }
            page.append((char) code);
            return page.length();
        }

        long blank() {
            int had = page.length();
            page = new StringBuilder();
            return had;
        }

        static String form(int order) {
            String number = "(0|1|2|-1|-2)";
            return order + ";" + list(number, order * order) + ";" + list(number, order) + ";" + list(number, order);
        }

        private static String list(String number, int count) {
            return number + ("," + number).repeat(count - 1);
        }

        private static final List<java.util.regex.Pattern> FORMS = List.of(java.util.regex.Pattern.compile(form(1)),
            java.util.regex.Pattern.compile(form(2)), java.util.regex.Pattern.compile(form(3)));

        static boolean isPlant(String text) {
            return FORMS.stream().anyMatch(f -> f.matcher(text).matches());
        }

        static boolean begins(String text) {
            for (java.util.regex.Pattern form : FORMS) {
                java.util.regex.Matcher matcher = form.matcher(text);
                if (matcher.matches() || matcher.hitEnd()) {
                    return true;
                }
            }
            return false;
        }

        static int faultOf(String text) {
            for (int at = 0; at < text.length(); at++) {
                if (!begins(text.substring(0, at + 1))) {
                    return at;
                }
            }
            return text.length();
        }

        long fault() {
            return faultOf(page.toString());
        }

        long plant() {
            if (!isPlant(page.toString())) {
                return RestGains.STATE;
            }
            String[] groups = page.toString().split(";");
            order = Integer.parseInt(groups[0]);
            cells = new int[15];
            String[] table = groups[1].split(",");
            for (int i = 0; i < table.length; i++) {
                cells[3 * (i / order) + i % order] = Integer.parseInt(table[i]);
            }
            for (int i = 0; i < order; i++) {
                cells[9 + i] = Integer.parseInt(groups[2].split(",")[i]);
                cells[12 + i] = Integer.parseInt(groups[3].split(",")[i]);
            }
            start = new long[3];
            page = new StringBuilder();
            read++;
            shortest = null;
            return order;
        }

        boolean there(int what) {
            for (int r = 0; r < order; r++) {
                for (int c = 0; c < order; c++) {
                    if (what == 3 * r + c) {
                        return true;
                    }
                }
                if (what == 9 + r || what == 12 + r) {
                    return true;
                }
            }
            return false;
        }

        long alter(int what, int v) {
            if (!there(what)) {
                return RestGains.UNKNOWN;
            }
            if (v < -2 || v > 2) {
                return RestGains.OUTSIDE;
            }
            int was = cells[what];
            cells[what] = v;
            shortest = null;
            return was;
        }

        long has(int what) {
            return there(what) ? cells[what] : RestGains.UNKNOWN;
        }

        long start(int place, int v) {
            if (place < 0 || place >= order) {
                return RestGains.UNKNOWN;
            }
            if (v < -20 || v > 20) {
                return RestGains.OUTSIDE;
            }
            long was = start[place];
            start[place] = v;
            shortest = null;
            return was;
        }

        long limit(int v) {
            if (v < 1 || v > 5) {
                return RestGains.OUTSIDE;
            }
            int was = limit;
            limit = v;
            shortest = null;
            return was;
        }

        long[] next(long[] state, long input) {
            long[] to = new long[3];
            for (int r = 0; r < order; r++) {
                to[r] = cells[9 + r] * input;
                for (int c = 0; c < order; c++) {
                    to[r] += cells[3 * r + c] * state[c];
                }
            }
            return to;
        }

        long seen() {
            long sum = 0;
            for (int i = 0; i < order; i++) {
                sum += cells[12 + i] * start[i];
            }
            return sum;
        }

        long tick(int input) {
            if (order == 0) {
                return RestGains.STATE;
            }
            if (input < -100 || input > 100) {
                return RestGains.OUTSIDE;
            }
            long[] to = next(start, input);
            for (long number : to) {
                if (number < -1000000 || number > 1000000) {
                    return RestGains.STATE;
                }
            }
            start = to;
            gone++;
            shortest = null;
            return seen();
        }

        Part cell(int what) {
            return Part.of(cells[what]);
        }

        /** The table, or its rows and columns exchanged. */
        Part[][] table(boolean exchanged) {
            Part[][] t = new Part[order][order];
            for (int r = 0; r < order; r++) {
                for (int c = 0; c < order; c++) {
                    t[r][c] = exchanged ? cell(3 * c + r) : cell(3 * r + c);
                }
            }
            return t;
        }

        static Part[] times(Part[][] t, Part[] v) {
            Part[] to = new Part[v.length];
            for (int r = 0; r < v.length; r++) {
                to[r] = sum(t[r], v);
            }
            return to;
        }

        static Part sum(Part[] a, Part[] b) {
            Part s = Part.ZERO;
            for (int i = 0; i < a.length; i++) {
                s = s.plus(a[i].times(b[i]));
            }
            return s;
        }

        Part[][] rows(boolean sight) {
            Part[][] rows = new Part[order][order];
            for (int i = 0; i < order; i++) {
                rows[0][i] = cell((sight ? 12 : 9) + i);
            }
            for (int r = 1; r < order; r++) {
                rows[r] = times(table(sight), rows[r - 1]);
            }
            return rows;
        }

        static int rank(Part[][] rows) {
            Part[][] a = new Part[rows.length][];
            for (int r = 0; r < rows.length; r++) {
                a[r] = rows[r].clone();
            }
            int rank = 0;
            for (int c = 0; a.length > 0 && c < a[0].length; c++) {
                int pivot = rank;
                while (pivot < a.length && a[pivot][c].isZero()) {
                    pivot++;
                }
                if (pivot == a.length) {
                    continue;
                }
                Part[] swap = a[pivot];
                a[pivot] = a[rank];
                a[rank] = swap;
                for (int r = rank + 1; r < a.length; r++) {
                    Part f = a[r][c].over(a[rank][c]).negated();
                    for (int k = 0; k < a[r].length; k++) {
                        a[r][k] = a[r][k].plus(f.times(a[rank][k]));
                    }
                }
                rank++;
            }
            return rank;
        }

        boolean full(boolean sight) {
            return order > 0 && rank(rows(sight)) == order;
        }

        long row(boolean sight, int row, int place) {
            if (row < 0 || row >= order || place < 0 || place >= order) {
                return RestGains.UNKNOWN;
            }
            return rows(sight)[row][place].told(0);
        }

        long about(int what) {
            if (order == 0) {
                return RestGains.STATE;
            }
            switch (what) {
                case 0: return rank(rows(false));
                case 1: return rank(rows(true));
                case 2: return full(false) ? 1 : 0;
                case 3: return full(true) ? 1 : 0;
                case 4: return can() ? 1 : 0;
                case 5: return seen();
                default: return RestGains.OUTSIDE;
            }
        }

        boolean can() {
            Part[][] rows = rows(false);
            Part[][] more = new Part[order + 1][];
            System.arraycopy(rows, 0, more, 0, order);
            more[order] = state();
            for (int t = 0; t < order; t++) {
                more[order] = times(table(false), more[order]);
            }
            return rank(more) == rank(rows);
        }

        Part[] state() {
            Part[] s = new Part[order];
            for (int i = 0; i < order; i++) {
                s[i] = Part.of(start[i]);
            }
            return s;
        }

        /**
         * By the law of Cayley and Hamilton: K = (0 .. 0 1) times the inverse of REACH times the
         * table to the power ORDER; w times REACH = (0 .. 0 1) is solved by elimination.
         */
        Part[] gains(boolean watcher) {
            Part[][] rows = rows(watcher);
            Part[][] a = new Part[order][order + 1];
            for (int r = 0; r < order; r++) {
                System.arraycopy(rows[r], 0, a[r], 0, order);
                a[r][order] = Part.of(r == order - 1 ? 1 : 0);
            }
            for (int c = 0; c < order; c++) {
                int pivot = c;
                while (a[pivot][c].isZero()) {
                    pivot++;
                }
                Part[] swap = a[pivot];
                a[pivot] = a[c];
                a[c] = swap;
                for (int r = 0; r < order; r++) {
                    if (r != c) {
                        Part f = a[r][c].over(a[c][c]).negated();
                        for (int k = 0; k <= order; k++) {
                            a[r][k] = a[r][k].plus(f.times(a[c][k]));
                        }
                    }
                }
            }
            Part[] w = new Part[order];
            for (int c = 0; c < order; c++) {
                w[c] = a[c][order].over(a[c][c]);
            }
            for (int t = 0; t < order; t++) {
                w = times(table(!watcher), w);
            }
            return w;
        }

        /** What a tick does with the gains, or with the watcher to a miss, as one table. */
        Part[][] closed(boolean watcher) {
            Part[] g = gains(watcher);
            Part[][] t = table(false);
            for (int r = 0; r < order; r++) {
                for (int c = 0; c < order; c++) {
                    Part less = watcher ? g[r].times(cell(12 + c)) : cell(9 + r).times(g[c]);
                    t[r][c] = t[r][c].plus(less.negated());
                }
            }
            return t;
        }

        long gain(boolean watcher, int place, int part) {
            if (place < 0 || place >= order) {
                return RestGains.UNKNOWN;
            }
            if (part < 0 || part > 1) {
                return RestGains.OUTSIDE;
            }
            return full(watcher) ? gains(watcher)[place].told(part) : RestGains.STATE;
        }

        Part[] behind(boolean watcher, int ticks) {
            Part[][] t = closed(watcher);
            Part[] s = state();
            for (int i = 0; i < ticks; i++) {
                s = times(t, s);
            }
            return s;
        }

        long after(boolean watcher, int ticks, int place, int part) {
            if (place < 0 || place >= order) {
                return RestGains.UNKNOWN;
            }
            if (ticks < 0 || ticks > 4 || part < 0 || part > 1) {
                return RestGains.OUTSIDE;
            }
            return full(watcher) ? behind(watcher, ticks)[place].told(part) : RestGains.STATE;
        }

        long input(int tick, int part) {
            if (!full(false)) {
                return RestGains.STATE;
            }
            if (tick < 0 || tick > 4 || part < 0 || part > 1) {
                return RestGains.OUTSIDE;
            }
            return sum(gains(false), behind(false, tick)).negated().told(part);
        }

        /** By the powers of the closed table: the first that is all 0. */
        long most(boolean watcher) {
            if (!full(watcher)) {
                return RestGains.STATE;
            }
            Part[][] t = closed(watcher);
            for (int ticks = 0; ticks < 10; ticks++) {
                boolean rest = true;
                for (int unit = 0; unit < order; unit++) {
                    Part[] s = new Part[order];
                    for (int i = 0; i < order; i++) {
                        s[i] = Part.of(i == unit ? 1 : 0);
                    }
                    for (int i = 0; i < ticks; i++) {
                        s = times(t, s);
                    }
                    for (Part p : s) {
                        rest &= p.isZero();
                    }
                }
                if (rest) {
                    return ticks;
                }
            }
            return -1;
        }

        boolean tries(long[] state, int left, List<Integer> inputs) {
            if (left == 0) {
                return state[0] == 0 && state[1] == 0 && state[2] == 0;
            }
            for (int input = -limit; input <= limit; input++) {
                inputs.add(input);
                if (tries(next(state, input), left - 1, inputs)) {
                    return true;
                }
                inputs.remove(inputs.size() - 1);
            }
            return false;
        }

        long plan(int what) {
            if (order == 0) {
                return RestGains.STATE;
            }
            if (what != 0 && (what < 10 || what > 15)) {
                return RestGains.OUTSIDE;
            }
            if (shortest == null) {
                shortest = new ArrayList<>();
                int most = rank(rows(false)) + 3;
                int n = 0;
                while (n <= most && !tries(start, n, shortest)) {
                    n++;
                }
                if (n > most) {
                    shortest.add(99);
                }
            }
            boolean none = shortest.size() == 1 && shortest.get(0) == 99;
            if (what == 0) {
                return none ? RestGains.NONE : shortest.size();
            }
            return none || what - 10 >= shortest.size() ? RestGains.NONE : shortest.get(what - 10);
        }

        long count(int what) {
            switch (what) {
                case 0: return order;
                case 1: return page.length();
                case 2: return limit;
                case 3: return read;
                case 4: return gone;
                default: return RestGains.OUTSIDE;
            }
        }

        long digest() {
            List<Long> all = new ArrayList<>();
            for (int what = 0; what < 15; what++) {
                if (there(what)) {
                    all.add(has(what));
                }
            }
            if (order > 0) {
                for (int i = 0; i < order; i++) {
                    all.add(start[i]);
                }
                for (int i = 0; i < 2 * order * order; i++) {
                    int at = i % (order * order);
                    all.add(row(i >= order * order, at / order, at % order));
                }
                for (int what = 0; what < 6; what++) {
                    all.add(about(what));
                }
                for (int w = 0; w < 2; w++) {
                    boolean watcher = w == 1;
                    if (!full(watcher)) {
                        continue;
                    }
                    for (int i = 0; i < 2 * order; i++) {
                        all.add(gain(watcher, i / 2, i % 2));
                    }
                    all.add(most(watcher));
                    for (int i = 0; i < 6 && !watcher; i++) {
                        all.add(input(i / 2, i % 2));
                    }
                    for (int i = 0; i < 4 * order; i++) {
                        all.add(after(watcher, 1 + i / (2 * order), i / 2 % order, i % 2));
                    }
                }
                all.add(plan(0));
                for (int what = 10; what < 16; what++) {
                    all.add(plan(what));
                }
            }
            for (char c : page.toString().toCharArray()) {
                all.add((long) c);
            }
            for (int what = 0; what < 5; what++) {
                all.add(count(what));
            }
            long h = 1721;
            for (long number : all) {
                h = 31 * h + number;
            }
            return h;
        }
    }
}
