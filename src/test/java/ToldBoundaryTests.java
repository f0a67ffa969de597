import java.math.BigInteger;

/** The boundary cases of what is told, counted and folded: promises 6 to 10, 18 and 19. */
public final class ToldBoundaryTests extends Boundaries {
    private static final int[][] THERE = {{}, {0, 9, 12}, {0, 1, 3, 4, 9, 10, 12, 13}, {0, 1, 2, 3, 4, 5, 6, 7, 8, 9, 10, 11, 12, 13, 14}};

    public static void main(String[] args) throws Exception {
        runAll(ToldBoundaryTests.class, 6, 7, 8, 9, 10, 18, 19);
    }

    /** A plant of this order that obeys and shows, with all that a refused call could change. */
    private static RestGains busy(int order) {
        String[] texts = {"", "1;2;-1;2", "2;1,2,-1,1;1,0;0,1", THREE};
        RestGains x = started(planted(texts[order]), 5, -3, 2);
        x.limit(3);
        x.tick(-4);
        return write(x, "1;2");
    }

    private static boolean isThere(int order, int what) {
        for (int there : THERE[order]) {
            if (there == what) {
                return true;
            }
        }
        return false;
    }

    // ---- alter

    @Says(promise = 6, words = "becomes v: what it was")
    private static void bothEndsOfEachPlace() {
        for (int order = 1; order <= 3; order++) {
            for (int what : THERE[order]) {
                RestGains x = planted(flat(order, 1));
                due("alter(" + what + ", -2)", x.alter(what, -2), 1);
                due("alter(" + what + ", -2) again", x.alter(what, -2), -2);
                due("alter(" + what + ", 2)", x.alter(what, 2), -2);
                for (int other = 0; other < 15; other++) {
                    due("has(" + other + ")", x.has(other), !isThere(order, other) ? UNKNOWN : other == what ? 2 : 1);
                }
            }
        }
    }

    @Says(promise = 6, words = "OUTSIDE: v (-2 to 2)")
    private static void theNumbersJustOutside() {
        for (int of = 1; of <= 3; of++) {
            int order = of;
            for (int what : THERE[order]) {
                refused("alter(" + what + ", -3)", () -> busy(order), x -> x.alter(what, -3), OUTSIDE);
                refused("alter(" + what + ", 3)", () -> busy(order), x -> x.alter(what, 3), OUTSIDE);
            }
        }
        for (int v : FAR) {
            refused("alter(0, " + v + ")", () -> busy(3), x -> x.alter(0, v), OUTSIDE);
        }
    }

    @Says(promise = 6, words = "UNKNOWN: what (no such place in this PLANT, too)")
    private static void noSuchPlace() {
        for (int of = 1; of <= 3; of++) {
            int order = of;
            for (int what = -1; what <= 15; what++) {
                if (!isThere(order, what)) {
                    int place = what;
                    refused("alter(" + what + ", 2) of order " + order, () -> busy(order), x -> x.alter(place, 2), UNKNOWN);
                }
            }
            for (int what : FAR) {
                refused("alter(" + what + ", 2) of order " + order, () -> busy(order), x -> x.alter(what, 2), UNKNOWN);
            }
        }
    }

    @Says(promise = 6, words = "UNKNOWN: what (no such place in this PLANT, too); OUTSIDE: v (-2 to 2)")
    private static void unknownComesAheadOfOutside() {
        refused("alter(-1, 3)", () -> busy(3), x -> x.alter(-1, 3), UNKNOWN);
        refused("alter(15, -3)", () -> busy(3), x -> x.alter(15, -3), UNKNOWN);
        refused("alter(2, 3) of order 2", () -> busy(2), x -> x.alter(2, 3), UNKNOWN);
        refused("alter(10, 3) of order 1", () -> busy(1), x -> x.alter(10, 3), UNKNOWN);
        refused("alter(0, 3) without a plant", RestGains::new, x -> x.alter(0, 3), UNKNOWN);
    }

    @Says(promise = 6, words = "becomes v: what it was")
    private static void startPageAndCountsStay() {
        RestGains x = busy(3);
        for (int what = 0; what < 15; what++) {
            x.alter(what, 0);
        }
        row("count()", counts(x), 3, 3, 3, 1, 1);
        due("fault()", x.fault(), 3);
        due("start(0, 0)", x.start(0, 0), -1);
        due("start(1, 0)", x.start(1, 0), 1);
        due("start(2, 0)", x.start(2, 0), 4);
    }

    @Says(promise = 6, words = "becomes v: what it was")
    private static void anAlteredPlantIsAsOneReadSo() {
        for (int order = 1; order <= 3; order++) {
            RestGains x = planted(flat(order, 2), 3);
            x.plan(0);
            for (int what : THERE[order]) {
                x.alter(what, what % 5 - 2);
            }
            String[] texts = {"", "1;-2;2;0", "2;-2,-1,1,2;2,-2;0,1", "3;-2,-1,0,1,2,-2,-1,0,1;2,-2,-1;0,1,2"};
            same("altered, of order " + order, x, planted(texts[order], 3));
        }
    }

    // ---- has

    @Says(promise = 7, words = "What is there: what as for alter()")
    private static void hasAtEachEnd() {
        for (int order = 1; order <= 3; order++) {
            for (int number = -2; number <= 2; number++) {
                RestGains x = planted(flat(order, number));
                for (int what = -1; what <= 15; what++) {
                    due("has(" + what + ") of order " + order, x.has(what), isThere(order, what) ? number : UNKNOWN);
                }
                for (int what : FAR) {
                    due("has(" + what + ") of order " + order, x.has(what), UNKNOWN);
                }
            }
        }
    }

    @Says(promise = 7, words = "UNKNOWN.")
    private static void hasRefused() {
        refused("has(-1)", () -> busy(3), x -> x.has(-1), UNKNOWN);
        refused("has(15)", () -> busy(3), x -> x.has(15), UNKNOWN);
        refused("has(8) of order 2", () -> busy(2), x -> x.has(8), UNKNOWN);
        refused("has(0) without a plant", RestGains::new, x -> x.has(0), UNKNOWN);
    }

    // ---- start

    @Says(promise = 8, words = "START at a place becomes v: what it was")
    private static void bothEndsOfStart() {
        for (int order = 1; order <= 3; order++) {
            for (int place = 0; place < order; place++) {
                RestGains x = planted(flat(order, 1));
                due("start(" + place + ", -20)", x.start(place, -20), 0);
                due("about(5)", x.about(5), -20);
                due("start(" + place + ", 20)", x.start(place, 20), -20);
                due("start(" + place + ", 20) again", x.start(place, 20), 20);
                due("about(5)", x.about(5), 20);
                for (int other = 0; other < order; other++) {
                    due("start(" + other + ", 0)", x.start(other, 0), other == place ? 20 : 0);
                }
            }
        }
    }

    @Says(promise = 8, words = "OUTSIDE: v (-20 to 20)")
    private static void startJustOutside() {
        for (int place = 0; place < 3; place++) {
            int at = place;
            refused("start(" + place + ", -21)", () -> busy(3), x -> x.start(at, -21), OUTSIDE);
            refused("start(" + place + ", 21)", () -> busy(3), x -> x.start(at, 21), OUTSIDE);
        }
        for (int v : FAR) {
            refused("start(0, " + v + ")", () -> busy(1), x -> x.start(0, v), OUTSIDE);
        }
    }

    @Says(promise = 8, words = "UNKNOWN: place")
    private static void noSuchStart() {
        for (int of = 1; of <= 3; of++) {
            int order = of;
            for (int place : new int[] {-1, order, 3}) {
                refused("start(" + place + ", 1) of order " + order, () -> busy(order), x -> x.start(place, 1), UNKNOWN);
            }
            for (int place : FAR) {
                refused("start(" + place + ", 1) of order " + order, () -> busy(order), x -> x.start(place, 1), UNKNOWN);
            }
        }
    }

    @Says(promise = 8, words = "UNKNOWN: place; OUTSIDE: v (-20 to 20)")
    private static void unknownPlaceComesFirst() {
        refused("start(-1, 21)", () -> busy(3), x -> x.start(-1, 21), UNKNOWN);
        refused("start(3, -21)", () -> busy(3), x -> x.start(3, -21), UNKNOWN);
        refused("start(1, 21) of order 1", () -> busy(1), x -> x.start(1, 21), UNKNOWN);
        refused("start(0, 21) without a plant", RestGains::new, x -> x.start(0, 21), UNKNOWN);
    }

    @Says(promise = 8, words = "what it was")
    private static void whatATickLeftIsTold() {
        for (int sign = -1; sign <= 1; sign += 2) {
            RestGains x = million(3, sign);
            for (int place = 0; place < 3; place++) {
                due("start(" + place + ", 20) behind ticks", x.start(place, 20), sign * 1000000L);
            }
        }
    }

    // ---- limit

    @Says(promise = 9, words = "LIMIT becomes v: what it was")
    private static void bothEndsOfLimit() {
        RestGains x = new RestGains();
        int was = 2;
        for (int v : new int[] {1, 5, 5, 1, 1, 2, 3, 4, 5}) {
            due("limit(" + v + ")", x.limit(v), was);
            due("count(2)", x.count(2), v);
            was = v;
        }
    }

    @Says(promise = 9, words = "none less than 0 less LIMIT (1 to 5; 2 at first)")
    private static void limitJustOutside() {
        for (int v : new int[] {0, 6, -1, -5}) {
            refused("limit(" + v + ")", () -> busy(3), x -> x.limit(v), OUTSIDE);
            refused("limit(" + v + ") without a plant", RestGains::new, x -> x.limit(v), OUTSIDE);
        }
        for (int v : FAR) {
            refused("limit(" + v + ")", () -> busy(3), x -> x.limit(v), OUTSIDE);
        }
    }

    // ---- tick

    @Says(promise = 10, words = "OUTSIDE: input (-100 to 100)")
    private static void bothEndsOfInput() {
        RestGains x = planted("1;1;1;1");
        due("tick(100)", x.tick(100), 100);
        due("tick(-100)", x.tick(-100), 0);
        due("tick(-100)", x.tick(-100), -100);
        due("tick(0)", x.tick(0), -100);
        due("count(4)", x.count(4), 4);
    }

    @Says(promise = 10, words = "OUTSIDE: input (-100 to 100)")
    private static void inputJustOutside() {
        for (int order = 1; order <= 3; order++) {
            int of = order;
            refused("tick(101)", () -> busy(of), x -> x.tick(101), OUTSIDE);
            refused("tick(-101)", () -> busy(of), x -> x.tick(-101), OUTSIDE);
        }
        for (int input : FAR) {
            refused("tick(" + input + ")", () -> busy(2), x -> x.tick(input), OUTSIDE);
        }
    }

    @Says(promise = 10, words = "STATE: no PLANT; OUTSIDE: input (-100 to 100)")
    private static void noPlantComesAheadOfOutside() {
        for (int input : new int[] {-101, -100, 0, 100, 101}) {
            refused("tick(" + input + ") without a plant", RestGains::new, x -> x.tick(input), STATE);
        }
    }

    @Says(promise = 10, words = "OUTSIDE: input (-100 to 100); STATE: some number of it would be below")
    private static void outsideComesAheadOfTooFar() {
        refused("tick(101) too far", () -> million(1, 1), x -> x.tick(101), OUTSIDE);
        refused("tick(-101) too far", () -> million(1, -1), x -> x.tick(-101), OUTSIDE);
    }

    @Says(promise = 10, words = "would be below -1000000 or above 1000000")
    private static void theFarthestIsKept() {
        for (int sign = -1; sign <= 1; sign += 2) {
            for (int order = 1; order <= 3; order++) {
                RestGains x = million(order, sign);
                due("count(4)", x.count(4), 20);
                due("tick(0) at the edge", x.tick(0), sign * order * 1000000L);
                due("tick towards 0", x.tick(-sign), sign * order * 999999L);
                due("tick to the edge", x.tick(sign), sign * order * 1000000L);
                due("count(4)", x.count(4), 23);
            }
        }
    }

    /** At the edge in each place, with a PUSH at one place alone. */
    private static RestGains pushedAt(int order, int place, int sign) {
        RestGains x = million(order, sign);
        for (int other = 0; other < order; other++) {
            x.alter(9 + other, other == place ? 1 : 0);
        }
        return x;
    }

    @Says(promise = 10, words = "some number of it would be below -1000000 or above 1000000")
    private static void oneTooFarAtEachPlace() {
        for (int order = 1; order <= 3; order++) {
            for (int place = 0; place < order; place++) {
                int of = order;
                int at = place;
                refused("tick(1) at 1000000", () -> pushedAt(of, at, 1), x -> x.tick(1), STATE);
                refused("tick(-1) at -1000000", () -> pushedAt(of, at, -1), x -> x.tick(-1), STATE);
                refused("tick(100) at 1000000", () -> pushedAt(of, at, 1), x -> x.tick(100), STATE);
            }
        }
    }

    @Says(promise = 10, words = "they change nothing")
    private static void noPlaceGoesOnWhenTheLastIsTooFar() {
        RestGains x = planted("3;1,1,0,0,1,1,0,0,2;0,0,0;1,1,1", 1, 2, 20);
        int ticks = 0;
        while (x.tick(0) != STATE && ticks < 50) {
            ticks++;
        }
        due("ticks until the last place is too far", ticks, 15);
        due("count(4)", x.count(4), 15);
        due("start(2, 0)", x.start(2, 0), 20L << 15);
        due("start(1, 0)", x.start(1, 0), 2 + 20L * ((1 << 15) - 1));
        due("start(0, 0)", x.start(0, 0), 1 + 2 * 15 + 20L * ((1 << 15) - 1 - 15));
    }

    @Says(promise = 10, words = "would be below -1000000 or above 1000000")
    private static void onlyTheWholeSumCounts() {
        for (int sign = -1; sign <= 1; sign += 2) {
            RestGains x = million(3, sign);
            x.alter(0, 2);
            x.alter(1, 1);
            x.alter(2, -2);
            due("twice the edge and once, less twice", x.tick(0), sign * 3000000L);
            RestGains y = planted("1;2;1;1");
            for (int bit = 18; bit >= 0; bit--) {
                y.tick(sign * (500050 >> bit & 1));
            }
            due("about(5)", y.about(5), sign * 500050L);
            due("the input brings it back", y.tick(-100 * sign), sign * 1000000L);
        }
    }

    @Says(promise = 10, words = "what is SEEN of it then")
    private static void seenMayBeFarther() {
        for (int sign = -1; sign <= 1; sign += 2) {
            RestGains x = million(3, sign);
            for (int what = 12; what < 15; what++) {
                x.alter(what, -2);
            }
            due("tick(0)", x.tick(0), -sign * 6000000L);
            due("about(5)", x.about(5), -sign * 6000000L);
        }
    }

    @Says(promise = 10, words = "what is SEEN of it then")
    private static void seenOfTheNextOneNotOfThis() {
        RestGains x = planted("2;0,1,0,0;0,1;1,0", 7, 9);
        due("about(5)", x.about(5), 7);
        due("tick(4)", x.tick(4), 9);
        due("tick(0)", x.tick(0), 4);
        due("tick(0)", x.tick(0), 0);
    }

    // ---- count

    @Says(promise = 18, words = "0 ORDER (0: no PLANT), 1 letters of THE PAGE, 2 LIMIT, 3 how often a PLANT was read, 4 TICKS that went by, ever")
    private static void eachCountAndItsNeighbours() {
        row("without a plant", counts(new RestGains()), 0, 0, 2, 0, 0);
        for (int order = 1; order <= 3; order++) {
            row("of order " + order, counts(busy(order)), order, 3, 3, 1, 1);
        }
    }

    @Says(promise = 18, words = "OUTSIDE.")
    private static void countJustOutside() {
        for (int what : new int[] {-1, 5}) {
            refused("count(" + what + ")", () -> busy(3), x -> x.count(what), OUTSIDE);
            refused("count(" + what + ") without a plant", RestGains::new, x -> x.count(what), OUTSIDE);
        }
        for (int what : FAR) {
            refused("count(" + what + ")", () -> busy(1), x -> x.count(what), OUTSIDE);
        }
    }

    @Says(promise = 18, words = "1 letters of THE PAGE")
    private static void lettersFromNoneToFull() {
        RestGains x = new RestGains();
        for (int letters = 0; letters <= 46; letters++) {
            due("count(1)", x.count(1), letters);
            x.letter(65);
        }
        due("count(1) when full", x.count(1), 46);
        x.blank();
        due("count(1) behind blank()", x.count(1), 0);
    }

    @Says(promise = 18, words = "3 how often a PLANT was read, 4 TICKS that went by, ever")
    private static void onlyWhatWentByIsCounted() {
        RestGains x = write(million(2, 1), "2;");
        due("plant() of no plant", x.plant(), STATE);
        due("tick(1) too far", x.tick(1), STATE);
        due("tick(101)", x.tick(101), OUTSIDE);
        row("count()", counts(x), 2, 2, 2, 1, 20);
        x.blank();
        write(x, "1;1;1;1");
        x.plant();
        row("count() behind another plant", counts(x), 1, 0, 2, 2, 20);
        x.tick(0);
        row("count() behind one more tick", counts(x), 1, 0, 2, 2, 21);
    }

    // ---- digest

    @Says(promise = 19, words = "h is 1721, then for each of these numbers, in order, 31 times h, and it")
    private static void ofANewObject() {
        due("digest()", new RestGains().digest(), 49270770793L);
    }

    @Says(promise = 19, words = "(as longs, wrapping)")
    private static void itWrapsAround() {
        RestGains x = written("~".repeat(46));
        BigInteger h = BigInteger.valueOf(1721);
        BigInteger by = BigInteger.valueOf(31);
        for (int i = 0; i < 46; i++) {
            h = h.multiply(by).add(BigInteger.valueOf('~'));
        }
        for (int count : new int[] {0, 46, 2, 0, 0}) {
            h = h.multiply(by).add(BigInteger.valueOf(count));
        }
        due("the number is longer than a long", h.bitLength() > 64 ? 1 : 0, 1);
        due("digest()", x.digest(), h.longValue());
    }

    @Says(promise = 19, words = "(as longs, wrapping)")
    private static void theLastThatFitsAndTheFirstThatWraps() {
        RestGains x = written("zzzzz");
        due("digest() of five letters", x.digest(), 1721L * 819628286980801L + 122 * (28629151L * (1 + 31 + 961 + 29791 + 923521)) + 5 * 29791 + 2 * 961);
        x.letter('z');
        long wrapped = new BigInteger("1721").multiply(BigInteger.valueOf(31).pow(11)).add(
            BigInteger.valueOf(122L * 28629151L * (1 + 31 + 961 + 29791 + 923521 + 28629151)).add(BigInteger.valueOf(6 * 29791 + 2 * 961))).longValue();
        due("digest() of six letters", x.digest(), wrapped);
    }

    @Says(promise = 19, words = "each letter of THE PAGE by its code")
    private static void lettersWithAndWithoutAPlant() {
        due("none", new RestGains().digest(), fold(0, 0, 2, 0, 0));
        due("one", written(" ").digest(), fold(32, 0, 1, 2, 0, 0));
        long[] full = new long[51];
        for (int i = 0; i < 46; i++) {
            full[i] = LONGEST.charAt(i);
        }
        System.arraycopy(new long[] {0, 46, 2, 0, 0}, 0, full, 46, 5);
        due("full", written(LONGEST).digest(), fold(full));
        due("with a plant", write(planted("1;1;0;0"), "ab").digest(),
            fold(1, 0, 0, 0, 0, 0, 0, 0, 0, 0, 1, 0, 0, NONE, NONE, NONE, NONE, NONE, NONE, 'a', 'b', 1, 2, 2, 1, 0));
    }

    @Says(promise = 19, words = "if it OBEYS gain() of each place for 0, 1, most()")
    private static void neitherObeysNorShows() {
        RestGains x = planted("2;1,0,0,1;1,0;0,2", 3, 4);
        due("digest()", x.digest(), fold(1, 0, 0, 1, 1, 0, 0, 2, 3, 4, 1, 0, 1, 0, 0, 2, 0, 2, 1, 1, 0, 0, 0, 8,
            NONE, NONE, NONE, NONE, NONE, NONE, NONE, 2, 0, 2, 1, 0));
    }

    @Says(promise = 19, words = "if it OBEYS gain() of each place for 0, 1, most(), input() for TICKS 0 to 2, parts 0 and 1 each, after() for TICKS 1, 2, each place, parts 0 and 1")
    private static void obeysAndDoesNotShow() {
        RestGains x = planted("2;1,1,0,1;0,1;0,0", 3, -1);
        due("digest()", x.digest(), fold(1, 1, 0, 1, 0, 1, 0, 0, 3, -1, 0, 1, 1, 1, 0, 0, 0, 0, 2, 0, 1, 0, 1, 0,
            1, 1, 2, 1, 2, -1, 1, 2, 1, 0, 1, 2, 1, -2, 1, 0, 1, 0, 1,
            2, -1, 2, NONE, NONE, NONE, NONE, 2, 0, 2, 1, 0));
    }

    @Says(promise = 19, words = "if it SHOWS the same of WATCHER (without input())")
    private static void showsAndDoesNotObey() {
        RestGains x = planted("2;1,1,0,1;0,0;1,0", 3, -1);
        due("digest()", x.digest(), fold(1, 1, 0, 1, 0, 0, 1, 0, 3, -1, 0, 0, 0, 0, 1, 0, 1, 1, 0, 2, 0, 1, 0, 3,
            2, 1, 1, 1, 2, -4, 1, -4, 1, 0, 1, 0, 1,
            NONE, NONE, NONE, NONE, NONE, NONE, NONE, 2, 0, 2, 1, 0));
    }

    @Says(promise = 19, words = "for each of these numbers, in order")
    private static void eachKindOfPlantByItsOwnAnswers() {
        for (String text : new String[] {flat(1, 0), flat(1, -2), "1;1;0;2", "1;1;2;0", flat(2, 1), "2;1,2,-1,1;1,0;0,1", flat(3, 0), flat(3, 2), THREE}) {
            RestGains x = write(started(planted(text), 5, -3, 2), "1;~");
            x.tick(2);
            due("digest() of " + text, x.digest(), foldedAnswers(x));
        }
    }

    /** The digest by what the other calls tell. */
    private static long foldedAnswers(RestGains x) {
        long[] all = new long[200];
        int n = 0;
        int order = (int) x.count(0);
        for (int what : THERE[order]) {
            all[n++] = x.has(what);
        }
        int starts = n;
        n += order;
        for (int i = 0; i < 2 * order * order; i++) {
            all[n++] = x.row(i >= order * order, i / order % order, i % order);
        }
        for (int what = 0; what < 6; what++) {
            all[n++] = x.about(what);
        }
        for (int second = 0; second < 2; second++) {
            boolean watcher = second == 1;
            if (x.about(2 + second) == 0) {
                continue;
            }
            for (long number : gains(x, watcher, order)) {
                all[n++] = number;
            }
            all[n++] = x.most(watcher);
            for (int i = 0; i < 6 && !watcher; i++) {
                all[n++] = x.input(i / 2, i % 2);
            }
            for (int i = 0; i < 4 * order; i++) {
                all[n++] = x.after(watcher, 1 + i / (2 * order), i / 2 % order, i % 2);
            }
        }
        for (long number : plan(x)) {
            all[n++] = number;
        }
        for (char letter : "1;~".toCharArray()) {
            all[n++] = letter;
        }
        for (long count : counts(x)) {
            all[n++] = count;
        }
        for (int place = 0; place < order; place++) {
            all[starts + place] = x.start(place, 0);
        }
        return fold(java.util.Arrays.copyOf(all, n));
    }

    @Says(promise = 19, words = "they change nothing")
    private static void digestChangesNothing() {
        for (int order = 1; order <= 3; order++) {
            RestGains x = busy(order);
            due("digest() twice", x.digest(), x.digest());
            same("behind digest()", x, busy(order));
        }
    }
}
