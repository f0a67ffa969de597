import java.util.function.Consumer;
import java.util.function.ToLongFunction;

/** For each promise: ordinary inputs, the edges that the document names, and wrong inputs. */
public final class PromiseTests extends Help {
    private static final int[] WILD = {Integer.MIN_VALUE, -1000, -1, 0, 1, 2, 3, 9, 16, 1000, Integer.MAX_VALUE};

    public static void main(String[] args) {
        promise01NewObject();
        promise02Letter();
        promise03Blank();
        promise04Fault();
        promise05Plant();
        promise06Alter();
        promise07Has();
        promise08Start();
        promise09Limit();
        promise10Tick();
        promise11Row();
        promise12About();
        promise13Gain();
        promise14After();
        promise15Input();
        promise16Most();
        promise17Plan();
        promise18Count();
        promise19Digest();
        refusalsChangeNothing();
        nothingThrows();
        end("all promises hold");
    }

    // ---- helps

    private static void unchanged(String call, RestGains x, ToLongFunction<RestGains> refused, long want) {
        long before = x.digest();
        due(call, refused.applyAsLong(x), want);
        due("digest behind " + call, x.digest(), before);
    }

    // ---- the promises

    private static void promise01NewObject() {
        RestGains x = new RestGains();
        row("1 count", counts(x), 0, 0, 2, 0, 0);
        due("1 fault", x.fault(), 0);
        due("1 blank", x.blank(), 0);
        due("1 plant", x.plant(), STATE);
        due("1 digest", x.digest(), fold(0, 0, 2, 0, 0));
        due("1 NONE", RestGains.NONE, NONE);
        due("1 UNKNOWN", RestGains.UNKNOWN, UNKNOWN);
        due("1 OUTSIDE", RestGains.OUTSIDE, OUTSIDE);
        due("1 STATE", RestGains.STATE, STATE);
        due("1 FULL", RestGains.FULL, FULL);
    }

    private static void promise02Letter() {
        RestGains x = new RestGains();
        due("2 letter(32)", x.letter(32), 1);
        due("2 letter(126)", x.letter(126), 2);
        for (int code : new int[] {31, 127, 0, -1, 256 + 49, Integer.MIN_VALUE, Integer.MAX_VALUE}) {
            unchanged("2 letter(" + code + ")", x, y -> y.letter(code), OUTSIDE);
        }
        for (int had = 2; had < 46; had++) {
            due("2 letter(65)", x.letter(65), had + 1);
        }
        unchanged("2 letter(65) when full", x, y -> y.letter(65), FULL);
        unchanged("2 letter(31) when full", x, y -> y.letter(31), OUTSIDE);
        due("2 blank", x.blank(), 46);
        due("2 letter(65) behind blank", x.letter(65), 1);
    }

    private static void promise03Blank() {
        RestGains x = written("2;1");
        due("3 blank", x.blank(), 3);
        due("3 blank again", x.blank(), 0);
        due("3 count(1)", x.count(1), 0);
        RestGains y = write(planted(SHIFT, 3, -1), "abc");
        due("3 blank with a plant", y.blank(), 3);
        due("3 digest", y.digest(), planted(SHIFT, 3, -1).digest());
    }

    private static void promise04Fault() {
        String[] texts = {"", "0", "4", "-", " 1", "1", "1,", "12", "1;", "1;-", "1;--", "1;-0", "1;-3", "1;3", "1;+1", "1;1,", "1;1;", "1;1;1",
            "1;1;1,", "1;1;1;", "1;1;1;1", "1;1;1;1;", "1;1;1;1,", "1;1;1;11", "1;1;1;-", "1;;", "2;1,1,1,1", "2;1,1;", "2;1,1,1,1,",
            "2;1,1,1,1;1;", "2;1,1,1,1;1,1,", "2;1,1,1,1;1,1;1;", "2;1,1,1,1;1,-2;-1,0", "2;1,1,1,1;1,-2;-1,00", "3;0,0,0,0,0,0,0,0;",
            "3;0,0,0,0,0,0,0,0,0,", "3;0,0,0,0,0,0,0,0,0;0,0;", "3;0,0,0,0,0,0,0,0,0;0,0,0;0,0,0", "3;01", "3;0 ,0", "1;1;1;x"};
        int[] places = {0, 0, 0, 0, 0, 1, 1, 1, 2, 3, 3, 3, 3, 2, 2, 3, 4, 5,
            5, 6, 7, 7, 7, 7, 7, 2, 9, 5, 9,
            11, 13, 15, 19, 19, 17,
            19, 23, 31, 3, 3, 6};
        due("4 places", texts.length, places.length);
        for (int i = 0; i < texts.length; i++) {
            RestGains x = written(texts[i]);
            due("4 fault of " + texts[i], x.fault(), places[i]);
            due("4 letters of " + texts[i], x.count(1), texts[i].length());
        }
        due("4 fault of the longest", written(LONGEST).fault(), 46);
        for (int length = 0; length <= LONGEST.length(); length++) {
            due("4 fault of a beginning", written(LONGEST.substring(0, length)).fault(), length);
        }
    }

    private static void promise05Plant() {
        String[] none = {"", "1", "1;1;1;", "1;1;1;-", "1;1;1;1;", "2;1,1,1,1;1,1;1", "4", "1;1;1;3"};
        for (String text : none) {
            unchanged("5 plant of " + text, written(text), RestGains::plant, STATE);
            RestGains x = write(planted(SHIFT, 3, -1), text);
            unchanged("5 plant of " + text + " with another", x, RestGains::plant, STATE);
        }
        RestGains x = planted(LONGEST, 1, 2, 3);
        due("5 page", x.count(1), 0);
        due("5 limit", x.limit(4), 2);
        due("5 tick", x.tick(0), 24);
        write(x, "1;-2;0;1");
        due("5 another plant", x.plant(), 1);
        row("5 count", counts(x), 1, 0, 4, 2, 1);
        due("5 start", x.start(0, 0), 0);
        due("5 gone place", x.start(1, 0), UNKNOWN);
        write(x, "3;0,0,0,0,0,0,0,0,0;0,0,0;0,0,0");
        due("5 third plant", x.plant(), 3);
        for (int what = 0; what < 15; what++) {
            due("5 has(" + what + ")", x.has(what), 0);
        }
        due("5 start(2) is 0", x.start(2, 1), 0);
    }

    private static void promise06Alter() {
        RestGains x = planted(THREE, 1, -2, 4);
        int[] was = {1, 2, 0, 0, 1, 2, 2, 0, 1, 0, 0, 2, 1, 1, 0};
        for (int what = 0; what < 15; what++) {
            int now = what % 5 - 2;
            due("6 alter(" + what + ")", x.alter(what, now), was[what]);
            due("6 has(" + what + ")", x.has(what), now);
        }
        due("6 start stays", x.start(2, 4), 4);
        for (int v : new int[] {-3, 3, Integer.MIN_VALUE, Integer.MAX_VALUE}) {
            unchanged("6 alter(0, " + v + ")", x, y -> y.alter(0, v), OUTSIDE);
            unchanged("6 alter(15, " + v + ")", x, y -> y.alter(15, v), UNKNOWN);
            unchanged("6 alter(-1, " + v + ")", x, y -> y.alter(-1, v), UNKNOWN);
        }
        RestGains two = planted(SHIFT);
        int[] there = {0, 1, 3, 4, 9, 10, 12, 13};
        int next = 0;
        for (int what = -1; what < 17; what++) {
            boolean is = next < there.length && there[next] == what;
            next += is ? 1 : 0;
            int place = what;
            if (is) {
                two.alter(what, 2);
                due("6 has in two " + what, two.has(what), 2);
            } else {
                unchanged("6 alter in two " + what, two, y -> y.alter(place, 9), UNKNOWN);
            }
        }
        RestGains one = planted("1;1;1;1");
        for (int what : new int[] {1, 2, 3, 4, 8, 10, 11, 13, 14}) {
            unchanged("6 alter in one " + what, one, y -> y.alter(what, 0), UNKNOWN);
        }
        due("6 alter without a plant", new RestGains().alter(0, 7), UNKNOWN);
        due("6 edges", one.alter(0, -2), 1);
        due("6 edges", one.alter(0, 2), -2);
        due("6 gain follows", one.gain(false, 0, 0), 2);
    }

    private static void promise07Has() {
        RestGains x = planted("3;-2,-1,0,1,2,-2,-1,0,1;2,-2,-1;0,1,2");
        for (int what = 0; what < 15; what++) {
            due("7 has(" + what + ")", x.has(what), what % 5 - 2);
        }
        due("7 has(15)", x.has(15), UNKNOWN);
        due("7 has(-1)", x.has(-1), UNKNOWN);
        due("7 has without a plant", new RestGains().has(0), UNKNOWN);
        RestGains two = planted("2;-1,-2,1,2;0,1;2,-1");
        long[] want = {-1, -2, UNKNOWN, 1, 2, UNKNOWN, UNKNOWN, UNKNOWN, UNKNOWN, 0, 1, UNKNOWN, 2, -1, UNKNOWN};
        for (int what = 0; what < 15; what++) {
            due("7 has in two(" + what + ")", two.has(what), want[what]);
        }
    }

    private static void promise08Start() {
        RestGains x = planted(SHIFT);
        due("8 start", x.start(0, 20), 0);
        due("8 start", x.start(0, -20), 20);
        due("8 start", x.start(1, 7), 0);
        due("8 start", x.start(0, 0), -20);
        unchanged("8 start above", x, y -> y.start(0, 21), OUTSIDE);
        unchanged("8 start below", x, y -> y.start(0, -21), OUTSIDE);
        unchanged("8 start place", x, y -> y.start(2, 21), UNKNOWN);
        unchanged("8 start place", x, y -> y.start(-1, 1), UNKNOWN);
        due("8 without a plant", new RestGains().start(0, 99), UNKNOWN);
        due("8 tick", x.tick(100), 7);
        due("8 what the tick left", x.start(1, 0), 107);
    }

    private static void promise09Limit() {
        RestGains x = new RestGains();
        due("9 limit", x.limit(1), 2);
        due("9 limit", x.limit(5), 1);
        unchanged("9 limit(6)", x, y -> y.limit(6), OUTSIDE);
        unchanged("9 limit(0)", x, y -> y.limit(0), OUTSIDE);
        unchanged("9 limit(-1)", x, y -> y.limit(-1), OUTSIDE);
        due("9 count", x.count(2), 5);
        write(x, SHIFT).plant();
        due("9 limit stays", x.limit(3), 5);
    }

    private static void promise10Tick() {
        due("10 no plant", new RestGains().tick(101), STATE);
        RestGains x = planted(SHIFT, 3, -1);
        due("10 tick(-2)", x.tick(-2), 2);
        due("10 state", x.start(1, 0), -3);
        due("10 count", x.count(4), 1);
        unchanged("10 tick(101)", x, y -> y.tick(101), OUTSIDE);
        unchanged("10 tick(-101)", x, y -> y.tick(-101), OUTSIDE);
        due("10 tick(100)", x.tick(100), 2);
        due("10 tick(-100)", x.tick(-100), 102);

        RestGains doubles = planted("1;2;1;-2", 1);
        long state = 1;
        while (2 * state <= 1000000) {
            state *= 2;
            due("10 doubling", doubles.tick(0), -2 * state);
        }
        unchanged("10 too far", doubles, y -> y.tick(0), STATE);
        unchanged("10 too far, and input", doubles, y -> y.tick(101), OUTSIDE);
        due("10 count stays", doubles.count(4), 19);

        for (int sign = -1; sign <= 1; sign += 2) {
            RestGains edge = planted("1;2;1;1");
            for (int bit = 19; bit >= 0; bit--) {
                edge.tick(sign * (1000000 >> bit & 1));
            }
            due("10 the edge itself", edge.about(5), sign * 1000000L);
            edge.alter(0, 1);
            int on = sign;
            unchanged("10 above the edge", edge, y -> y.tick(on), STATE);
            due("10 on the edge", edge.tick(0), sign * 1000000L);
            due("10 back", edge.tick(-sign), sign * 999999L);
        }

        RestGains second = planted("2;1,0,0,2;0,0;1,1", 1, 20);
        int ticks = 0;
        while (second.tick(0) != STATE && ticks < 100) {
            ticks++;
        }
        due("10 ticks until the second number is too far", ticks, 15);
        due("10 the first stays", second.start(0, 0), 1);
        due("10 the second stays", second.start(1, 0), 20 * 32768);
    }

    private static void promise11Row() {
        RestGains x = planted(THREE);
        long[][] reach = {{0, 0, 2}, {0, 4, 2}, {8, 8, 2}};
        long[][] sight = {{1, 1, 0}, {1, 3, 2}, {5, 5, 8}};
        for (int row = 0; row < 3; row++) {
            for (int place = 0; place < 3; place++) {
                due("11 reach " + row + " " + place, x.row(false, row, place), reach[row][place]);
                due("11 sight " + row + " " + place, x.row(true, row, place), sight[row][place]);
            }
        }
        for (int bad : new int[] {-1, 3, Integer.MIN_VALUE, Integer.MAX_VALUE}) {
            due("11 row", x.row(false, bad, 0), UNKNOWN);
            due("11 place", x.row(true, 0, bad), UNKNOWN);
        }
        due("11 in two", planted(SHIFT).row(true, 2, 0), UNKNOWN);
        due("11 in two", planted(SHIFT).row(true, 0, 2), UNKNOWN);
        due("11 without a plant", new RestGains().row(false, 0, 0), UNKNOWN);
        x.alter(11, -1);
        due("11 behind alter", x.row(false, 2, 0), -4);
        x.alter(12, 0);
        due("11 behind alter", x.row(true, 1, 0), 0);
    }

    private static void about(String text, long... want) {
        RestGains x = planted(text);
        for (int what = 0; what < want.length; what++) {
            due("12 about(" + what + ") of " + text, x.about(what), want[what]);
        }
    }

    private static void promise12About() {
        about(SHIFT, 2, 2, 1, 1, 1, 0);
        about(THREE, 3, 3, 1, 1, 1, 0);
        about("1;1;0;0", 0, 0, 0, 0, 1, 0);
        about("1;0;-1;2", 1, 1, 1, 1, 1, 0);
        about("2;1,0,0,1;1,1;1,-1", 1, 1, 0, 0, 1, 0);
        about("3;1,0,0,0,1,0,0,0,2;1,1,1;0,0,1", 2, 1, 0, 0, 1, 0);
        about("3;0,0,0,0,0,0,0,0,0;0,0,1;0,2,0", 1, 1, 0, 0, 1, 0);
        about("3;0,1,0,0,0,1,0,0,0;0,0,1;1,0,0", 3, 3, 1, 1, 1, 0);
        about("3;0,1,0,0,0,1,0,0,0;0,1,0;0,0,0", 2, 0, 0, 0, 1, 0);
        RestGains x = planted("3;1,0,0,0,1,0,0,0,2;1,1,1;-1,2,1", 4, 4, -7);
        due("12 can", x.about(4), 1);
        due("12 seen", x.about(5), -4 + 8 - 7);
        x.start(1, 5);
        due("12 can not", x.about(4), 0);
        x.alter(9, 0);
        x.alter(10, 0);
        due("12 can not", x.about(4), 0);
        x.alter(0, 0);
        x.alter(4, 0);
        due("12 can, as the rest dies out", x.about(4), 1);
        RestGains slow = planted("3;0,1,0,0,0,1,0,0,0;1,0,0;0,0,1", 0, 0, 9);
        due("12 can behind three ticks", slow.about(4), 1);
        due("12 about(6)", x.about(6), OUTSIDE);
        due("12 about(-1)", x.about(-1), OUTSIDE);
        due("12 without a plant", new RestGains().about(6), STATE);
    }

    private static void promise13Gain() {
        row("13 gains", gains(planted(SHIFT), false, 2), 1, 1, 2, 1);
        row("13 watcher", gains(planted(SHIFT), true, 2), 2, 1, 1, 1);
        row("13 gains", gains(planted(THREE), false, 3), 9, 8, 3, 4, 3, 2);
        row("13 watcher", gains(planted(THREE), true, 3), 15, 8, 9, 8, 3, 8);
        row("13 below is above 0", gains(planted("1;1;-2;-2"), false, 1), -1, 2);
        row("13 below is above 0", gains(planted("1;1;-2;-2"), true, 1), -1, 2);
        row("13 lowest terms", gains(planted("1;-2;-2;2"), false, 1), 1, 1);
        row("13 0 is 0 by 1", gains(planted("1;0;-2;2"), false, 1), 0, 1);
        RestGains x = planted("2;1,0,0,2;1,0;0,1");
        due("13 does not obey", x.gain(false, 0, 0), STATE);
        due("13 does not show", x.gain(true, 1, 1), STATE);
        due("13 part", x.gain(true, 1, 2), OUTSIDE);
        due("13 part", x.gain(true, 1, -1), OUTSIDE);
        due("13 place", x.gain(true, 2, 2), UNKNOWN);
        due("13 place", x.gain(true, -1, 0), UNKNOWN);
        due("13 without a plant", new RestGains().gain(false, 0, 5), UNKNOWN);
        RestGains half = planted("1;1;0;1");
        due("13 shows", half.gain(true, 0, 0), 1);
        due("13 does not obey", half.gain(false, 0, 0), STATE);
    }

    private static void promise14After() {
        RestGains x = planted(SHIFT, 3, -1);
        row("14 brought 0", after(x, false, 0, 2), 3, 1, -1, 1);
        row("14 brought 1", after(x, false, 1, 2), 2, 1, -2, 1);
        row("14 brought 2", after(x, false, 2, 2), 0, 1, 0, 1);
        row("14 missed 0", after(x, true, 0, 2), 3, 1, -1, 1);
        row("14 missed 1", after(x, true, 1, 2), -4, 1, -4, 1);
        row("14 missed 2", after(x, true, 2, 2), 0, 1, 0, 1);
        RestGains y = planted(THREE, 1, -2, 4);
        row("14 brought 1", after(y, false, 1, 3), -3, 1, 6, 1, -21, 4);
        row("14 brought 2", after(y, false, 2, 3), 9, 1, -9, 2, 9, 4);
        for (int ticks = 3; ticks < 5; ticks++) {
            row("14 brought " + ticks, after(y, false, ticks, 3), 0, 1, 0, 1, 0, 1);
            row("14 missed " + ticks, after(y, true, ticks, 3), 0, 1, 0, 1, 0, 1);
        }
        y.tick(3);
        row("14 behind a tick", after(y, false, 0, 3), -3, 1, 6, 1, 12, 1);
        for (int bad : new int[] {-1, 5, Integer.MIN_VALUE, Integer.MAX_VALUE}) {
            due("14 ticks", x.after(false, bad, 0, 0), OUTSIDE);
            due("14 part", x.after(true, 0, 0, bad), OUTSIDE);
            due("14 place", x.after(true, bad, bad, bad), UNKNOWN);
        }
        due("14 place", x.after(true, 0, 2, 0), UNKNOWN);
        due("14 part", x.after(true, 0, 0, 2), OUTSIDE);
        RestGains dull = planted("2;1,0,0,2;1,0;0,1", 1, 1);
        due("14 does not obey", dull.after(false, 0, 0, 0), STATE);
        due("14 does not show", dull.after(true, 4, 1, 1), STATE);
        due("14 ticks first", dull.after(true, 5, 1, 1), OUTSIDE);
        due("14 without a plant", new RestGains().after(false, 9, 0, 9), UNKNOWN);
    }

    private static void promise15Input() {
        RestGains x = planted(THREE, 1, -2, 4);
        long[] want = {-45, 8, 27, 4, -81, 8, 0, 1, 0, 1};
        for (int i = 0; i < want.length; i++) {
            due("15 input(" + i / 2 + ", " + i % 2 + ")", x.input(i / 2, i % 2), want[i]);
        }
        RestGains one = planted("1;1;-2;1", 3);
        due("15 in one", one.input(0, 0), 3);
        due("15 in one", one.input(0, 1), 2);
        due("15 in one", one.input(1, 0), 0);
        due("15 in one", one.input(1, 1), 1);
        for (int bad : new int[] {-1, 5, Integer.MIN_VALUE, Integer.MAX_VALUE}) {
            due("15 tick", x.input(bad, 0), OUTSIDE);
            due("15 part", x.input(0, bad), OUTSIDE);
        }
        due("15 part", x.input(4, 2), OUTSIDE);
        due("15 does not obey", planted("1;1;0;1").input(9, 9), STATE);
        due("15 without a plant", new RestGains().input(9, 9), STATE);
        due("15 obeys, but does not show", planted("1;1;1;0", 1).input(0, 0), -1);
    }

    private static void promise16Most() {
        for (String text : new String[] {"1;0;1;1", "1;2;1;1", SHIFT, "2;0,0,1,0;1,0;0,1", THREE, "3;0,1,0,0,0,1,0,0,0;0,0,1;1,0,0"}) {
            RestGains x = planted(text);
            due("16 most by gains of " + text, x.most(false), text.charAt(0) - '0');
            due("16 most by watcher of " + text, x.most(true), text.charAt(0) - '0');
        }
        RestGains half = planted("1;1;0;1");
        due("16 does not obey", half.most(false), STATE);
        due("16 shows", half.most(true), 1);
        half.alter(9, 1);
        half.alter(12, 0);
        due("16 obeys", half.most(false), 1);
        due("16 does not show", half.most(true), STATE);
        due("16 without a plant", new RestGains().most(false), STATE);
        due("16 without a plant", new RestGains().most(true), STATE);
    }

    private static void promise17Plan() {
        RestGains x = planted(SHIFT, 3, -1);
        row("17 plan", plan(x), 2, -1, 2, NONE, NONE, NONE, NONE);
        x.limit(1);
        row("17 with limit 1", plan(x), 3, 0, 0, 1, NONE, NONE, NONE);
        x.limit(2);
        x.start(0, 0);
        x.start(1, 0);
        row("17 at rest", plan(x), 0, NONE, NONE, NONE, NONE, NONE, NONE);
        x.tick(1);
        row("17 behind a tick", plan(x), 2, -2, 1, NONE, NONE, NONE, NONE);
        x.alter(0, 0);
        row("17 behind alter", plan(x), 2, -1, 0, NONE, NONE, NONE, NONE);

        row("17 no whole inputs", plan(planted("1;1;2;1", 3)), NONE, NONE, NONE, NONE, NONE, NONE, NONE);
        row("17 four ticks in one", plan(planted("1;1;1;1", 8)), 4, -2, -2, -2, -2, NONE, NONE);
        row("17 five are too many", plan(planted("1;1;1;1", 9)), NONE, NONE, NONE, NONE, NONE, NONE, NONE);
        row("17 the least first", plan(planted("1;1;1;1", 3)), 2, -2, -1, NONE, NONE, NONE, NONE);
        row("17 the least first", plan(planted("1;-1;1;1", 3)), 2, 1, -2, NONE, NONE, NONE, NONE);

        // no push at all: what the inputs are is free, and the least ones are told
        RestGains dies = planted("3;0,1,0,0,0,1,0,0,0;0,0,0;0,0,0", 0, 0, 5);
        row("17 dies out", plan(dies), 3, -2, -2, -2, NONE, NONE, NONE);
        dies.limit(5);
        row("17 dies out", plan(dies), 3, -5, -5, -5, NONE, NONE, NONE);
        dies.start(2, 0);
        dies.start(1, 1);
        row("17 dies out", plan(dies), 2, -5, -5, NONE, NONE, NONE, NONE);
        dies.alter(8, 1);
        dies.start(2, 1);
        row("17 stays", plan(dies), NONE, NONE, NONE, NONE, NONE, NONE, NONE);

        // the push reaches the first place alone, and the last one dies out meanwhile
        RestGains some = planted("3;1,0,0,0,0,1,0,0,0;1,0,0;0,0,0", 1, 0, 1);
        row("17 waits", plan(some), 2, -2, 1, NONE, NONE, NONE, NONE);
        row("17 six ticks", plan(planted("3;1,1,0,0,1,1,0,0,1;0,0,1;1,0,0", 10, 0, 0)), 6, -2, 1, 1, 1, 1, -2);

        due("17 what", x.plan(1), OUTSIDE);
        due("17 what", x.plan(9), OUTSIDE);
        due("17 what", x.plan(16), OUTSIDE);
        due("17 what", x.plan(-1), OUTSIDE);
        due("17 without a plant", new RestGains().plan(16), STATE);
    }

    private static void promise18Count() {
        RestGains x = planted(SHIFT);
        row("18 count", counts(x), 2, 0, 2, 1, 0);
        write(x, "12");
        x.plant();
        x.limit(4);
        x.tick(1);
        x.tick(101);
        row("18 count", counts(x), 2, 2, 4, 1, 1);
        x.blank();
        write(x, "1;1;1;1");
        x.plant();
        x.tick(1);
        row("18 count", counts(x), 1, 0, 4, 2, 2);
        for (int bad : new int[] {-1, 5, Integer.MIN_VALUE, Integer.MAX_VALUE}) {
            due("18 count(" + bad + ")", x.count(bad), OUTSIDE);
        }
    }

    private static void promise19Digest() {
        RestGains page = written("a;");
        page.limit(3);
        due("19 without a plant", page.digest(), fold('a', ';', 0, 2, 3, 0, 0));
        // 2x - u: the gain is -2, the input -(-2)3 is 6, the watcher 2 by -1
        RestGains one = write(planted("1;2;-1;-1", 3), "~");
        due("19 in one", one.digest(), fold(2, -1, -1, 3, -1, -1, 1, 1, 1, 1, 1, -3,
            -2, 1, 1, 6, 1, 0, 1, 0, 1, 0, 1, 0, 1,
            -2, 1, 1, 0, 1, 0, 1,
            NONE, NONE, NONE, NONE, NONE, NONE, NONE, '~', 1, 1, 2, 1, 0));
        RestGains deaf = planted("1;2;0;1", 3);
        due("19 does not obey", deaf.digest(), fold(2, 0, 1, 3, 0, 1, 0, 1, 0, 1, 0, 3,
            2, 1, 1, 0, 1, 0, 1,
            NONE, NONE, NONE, NONE, NONE, NONE, NONE, 1, 0, 2, 1, 0));
        RestGains blind = planted("1;1;1;0", 2);
        due("19 does not show", blind.digest(), fold(1, 1, 0, 2, 1, 0, 1, 0, 1, 0, 1, 0,
            1, 1, 1, -2, 1, 0, 1, 0, 1, 0, 1, 0, 1,
            1, -2, NONE, NONE, NONE, NONE, NONE, 1, 0, 2, 1, 0));
        RestGains two = planted(SHIFT, 3, -1);
        due("19 in two", two.digest(), fold(1, 1, 0, 1, 0, 1, 1, 0, 3, -1, 0, 1, 1, 1, 1, 0, 1, 1, 2, 2, 1, 1, 1, 3,
            1, 1, 2, 1, 2, -1, 1, 2, 1, 0, 1, 2, 1, -2, 1, 0, 1, 0, 1,
            2, 1, 1, 1, 2, -4, 1, -4, 1, 0, 1, 0, 1,
            2, -1, 2, NONE, NONE, NONE, NONE, 2, 0, 2, 1, 0));
        due("19 again", two.digest(), planted(SHIFT, 3, -1).digest());
    }

    // ---- of all calls

    private static void refusalsChangeNothing() {
        for (int first : new int[] {-1, 15, 100}) {
            RestGains x = write(planted(THREE, 5, -3, 2), "xyz");
            unchanged("alter", x, y -> y.alter(first, 0), UNKNOWN);
            unchanged("has", x, y -> y.has(first), UNKNOWN);
            unchanged("start", x, y -> y.start(first, 0), UNKNOWN);
            unchanged("row", x, y -> y.row(true, first, 0), UNKNOWN);
            unchanged("about", x, y -> y.about(first), OUTSIDE);
            unchanged("gain", x, y -> y.gain(true, 0, first), OUTSIDE);
            unchanged("after", x, y -> y.after(true, first, 0, 0), OUTSIDE);
            unchanged("input", x, y -> y.input(first, 0), OUTSIDE);
            unchanged("count", x, y -> y.count(first), OUTSIDE);
            unchanged("plant", x, RestGains::plant, STATE);
            unchanged("limit", x, y -> y.limit(first), OUTSIDE);
        }
    }

    private static void nothingThrows() {
        for (String text : new String[] {"", "1;0;0;0", "2;1,0,0,2;1,0;0,1", THREE}) {
            for (int a : WILD) {
                RestGains x = written(text);
                x.plant();
                every(x, y -> {
                    y.letter(a);
                    y.fault();
                    y.plant();
                    y.tick(a);
                    y.has(a);
                    y.limit(a);
                    y.about(a);
                    y.plan(a);
                    y.count(a);
                    for (int b : WILD) {
                        y.alter(a, b);
                        y.start(a, b);
                        y.row(b > 0, a, b);
                        y.gain(b > 0, a, b);
                        y.input(a, b);
                        y.after(b > 0, a, b, 0);
                        y.after(b > 0, 0, a, b);
                    }
                    y.most(a > 0);
                    y.digest();
                });
            }
        }
    }

    private static void every(RestGains x, Consumer<RestGains> calls) {
        try {
            calls.accept(x);
        } catch (RuntimeException thrown) {
            due("a call threw " + thrown + ": this", 0, 1);
        }
    }
}
