/** The boundary cases of what can be reached and seen, of gains and the watcher: promises 11 to 16. */
public final class GainBoundaryTests extends Boundaries {
    private static final String[] OBEYS_AND_SHOWS = {"", "1;2;-1;2", "2;1,2,-1,1;1,0;0,1", THREE};
    private static final String[] ONLY_OBEYS = {"", "1;2;-1;0", "2;1,1,0,1;0,1;0,1", "3;0,1,0,0,0,1,0,0,0;0,0,1;0,1,0"};
    private static final String[] ONLY_SHOWS = {"", "1;2;0;2", "2;1,1,0,1;1,0;1,0", "3;0,1,0,0,0,1,0,0,0;0,1,0;1,0,0"};
    private static final String[] NEITHER = {"", "1;2;0;0", "2;1,0,0,2;1,0;0,1", "3;1,0,0,0,1,0,0,0,2;1,1,1;0,0,1"};

    public static void main(String[] args) throws Exception {
        runAll(GainBoundaryTests.class, 11, 12, 13, 14, 15, 16);
    }

    private static RestGains busy(String[] kind, int order) {
        RestGains x = started(planted(kind[order]), 5, -3, 2);
        x.tick(3);
        return write(x, "1;2");
    }

    // ---- row

    @Says(promise = 11, words = "A number of a row of REACH (sight false), of SIGHT (true)")
    private static void firstAndLastRowAndPlace() {
        RestGains x = planted("3;1,2,0,0,1,2,2,0,1;0,-1,2;1,-2,0");
        long[][] reach = {{0, -1, 2}, {-2, 3, 2}, {4, 7, -2}};
        long[][] sight = {{1, -2, 0}, {1, 0, -4}, {-7, 2, -4}};
        for (int row = 0; row < 3; row++) {
            for (int place = 0; place < 3; place++) {
                due("row(false, " + row + ", " + place + ")", x.row(false, row, place), reach[row][place]);
                due("row(true, " + row + ", " + place + ")", x.row(true, row, place), sight[row][place]);
            }
        }
    }

    @Says(promise = 11, words = "UNKNOWN: row, place")
    private static void rowsAndPlacesJustOutside() {
        for (int order = 1; order <= 3; order++) {
            int of = order;
            for (int bad : new int[] {-1, order, 3}) {
                refused("row(false, " + bad + ", 0)", () -> busy(NEITHER, of), x -> x.row(false, bad, 0), UNKNOWN);
                refused("row(true, " + bad + ", 0)", () -> busy(OBEYS_AND_SHOWS, of), x -> x.row(true, bad, 0), UNKNOWN);
                refused("row(false, 0, " + bad + ")", () -> busy(OBEYS_AND_SHOWS, of), x -> x.row(false, 0, bad), UNKNOWN);
                refused("row(true, 0, " + bad + ")", () -> busy(NEITHER, of), x -> x.row(true, 0, bad), UNKNOWN);
                refused("row(true, " + bad + ", " + bad + ")", () -> busy(NEITHER, of), x -> x.row(true, bad, bad), UNKNOWN);
            }
            for (int bad : FAR) {
                refused("row(false, " + bad + ", 0)", () -> busy(NEITHER, of), x -> x.row(false, bad, 0), UNKNOWN);
                refused("row(true, 0, " + bad + ")", () -> busy(NEITHER, of), x -> x.row(true, 0, bad), UNKNOWN);
            }
            due("the last row and place", busy(NEITHER, order).row(false, order - 1, order - 1) == UNKNOWN ? 1 : 0, 0);
            due("the last row and place", busy(NEITHER, order).row(true, order - 1, order - 1) == UNKNOWN ? 1 : 0, 0);
        }
    }

    @Says(promise = 11, words = "row 0 is PUSH, each behind it the one ahead of it as a STATE goes on in a TICK without INPUT")
    private static void theGreatestRows() {
        long[] of = {2, 12, 72};
        for (int row = 0; row < 3; row++) {
            for (int place = 0; place < 3; place++) {
                due("reach", planted(flat(3, 2)).row(false, row, place), of[row]);
                due("sight", planted(flat(3, 2)).row(true, row, place), of[row]);
                due("reach below 0", planted(flat(3, -2)).row(false, row, place), row == 1 ? of[row] : -of[row]);
                due("sight below 0", planted(flat(3, -2)).row(true, row, place), row == 1 ? of[row] : -of[row]);
            }
        }
    }

    // ---- about

    @Says(promise = 12, words = "STATE: no PLANT; OUTSIDE.")
    private static void whatJustOutside() {
        for (int order = 1; order <= 3; order++) {
            int of = order;
            refused("about(-1)", () -> busy(OBEYS_AND_SHOWS, of), x -> x.about(-1), OUTSIDE);
            refused("about(6)", () -> busy(NEITHER, of), x -> x.about(6), OUTSIDE);
        }
        for (int what : FAR) {
            refused("about(" + what + ")", () -> busy(NEITHER, 1), x -> x.about(what), OUTSIDE);
        }
    }

    @Says(promise = 12, words = "STATE: no PLANT; OUTSIDE.")
    private static void noPlantComesAheadOfWhat() {
        for (int what : new int[] {-1, 0, 5, 6}) {
            refused("about(" + what + ") without a plant", RestGains::new, x -> x.about(what), STATE);
        }
    }

    private static void ranks(String text, long reach, long sight) {
        RestGains x = planted(text);
        long order = text.charAt(0) - '0';
        due("about(0) of " + text, x.about(0), reach);
        due("about(1) of " + text, x.about(1), sight);
        due("about(2) of " + text, x.about(2), reach == order ? 1 : 0);
        due("about(3) of " + text, x.about(3), sight == order ? 1 : 0);
    }

    @Says(promise = 12, words = "A PLANT OBEYS, if RANK of REACH is ORDER; it SHOWS, if RANK of SIGHT is")
    private static void eachRankOfEachOrder() {
        ranks("1;2;0;0", 0, 0);
        ranks("1;0;1;0", 1, 0);
        ranks("1;0;0;-2", 0, 1);
        ranks("2;1,1,0,1;0,0;0,0", 0, 0);
        ranks("2;1,1,0,1;1,0;1,0", 1, 2);
        ranks("2;1,1,0,1;0,1;0,1", 2, 1);
        ranks("3;1,1,0,0,1,1,0,0,1;0,0,0;0,0,0", 0, 0);
        ranks("3;1,1,0,0,1,1,0,0,1;2,0,0;0,0,-2", 1, 1);
        ranks("3;1,1,0,0,1,1,0,0,1;1,2,0;0,-1,2", 2, 2);
        ranks("3;1,1,0,0,1,1,0,0,1;1,2,-1;-1,0,1", 3, 3);
    }

    @Says(promise = 12, words = "none of which is a sum of multiples (fractions, too) of others, at most")
    private static void multiplesAndFractionsDoNotCount() {
        ranks("2;2,0,0,2;1,1;2,-2", 1, 1);
        ranks("2;0,0,0,0;2,1;1,2", 1, 1);
        ranks("3;2,0,0,0,2,0,0,0,1;2,1,2;1,0,1", 2, 2);
        ranks("3;0,0,0,0,0,0,0,0,0;0,0,2;0,-1,0", 1, 1);
        ranks("3;0,1,0,1,0,0,0,0,1;0,2,1;1,1,0", 2, 1);
        ranks("3;0,1,0,0,0,1,1,0,0;1,1,1;1,-1,0", 1, 2);
    }

    @Says(promise = 12, words = "START CAN be brought to rest, if it is all 0 behind ORDER TICKS with some INPUTS (fractions, of any size)")
    private static void canWithFractionsOfAnySize() {
        due("at rest", planted("2;1,0,0,1;0,0;0,0").about(4), 1);
        RestGains half = planted("1;1;2;1", 3);
        due("by a half", half.about(4), 1);
        due("not by whole inputs", half.plan(0), NONE);
        RestGains far = million(1, -1);
        far.limit(1);
        due("from -1000000", far.about(4), 1);
        for (int order = 1; order <= 3; order++) {
            due("one that obeys", busy(ONLY_OBEYS, order).about(4), 1);
        }
    }

    @Says(promise = 12, words = "if it is all 0 behind ORDER TICKS")
    private static void whatDiesOutInTimeAndWhatDoesNot() {
        String nilpotent = "3;0,1,0,0,0,1,0,0,0;0,0,0;0,0,0";
        due("dies out in three ticks", planted(nilpotent, 0, 0, 20).about(4), 1);
        due("stays", planted("3;0,1,0,0,0,1,0,0,1;0,0,0;0,0,0", 0, 0, 1).about(4), 0);
        due("what is not reached is 0", planted("2;1,0,0,2;1,0;0,0", 20, 0).about(4), 1);
        due("what is not reached is 1", planted("2;1,0,0,2;1,0;0,0", 20, 1).about(4), 0);
        due("what is not reached is -1", planted("2;1,0,0,2;1,0;0,0", 0, -1).about(4), 0);
        due("the one at the edge of what is reached", planted("3;1,0,0,0,1,0,0,0,1;1,2,-2;0,0,0", 10, 20, -20).about(4), 1);
        due("one beside it", planted("3;1,0,0,0,1,0,0,0,1;1,2,-2;0,0,0", 10, 20, -19).about(4), 0);
        due("dies out beside what is reached", planted("3;1,0,0,0,0,1,0,0,0;1,0,0;0,0,0", 20, 0, 20).about(4), 1);
        due("dies out into what is reached", planted("3;1,1,0,0,0,1,0,0,0;1,0,0;0,0,0", 0, 0, 20).about(4), 1);
    }

    @Says(promise = 12, words = "if it is all 0 behind ORDER TICKS")
    private static void whatGoesOnByRowsNotByColumns() {
        due("dies out by the rows", planted("2;1,1,0,0;0,0;0,0", 1, -1).about(4), 1);
        due("dies out by the columns alone", planted("2;1,1,0,0;0,0;0,0", 0, 1).about(4), 0);
    }

    @Says(promise = 12, words = "5 what is SEEN of START")
    private static void seenOfTheGreatestStart() {
        due("of START 0", planted(flat(3, 2)).about(5), 0);
        due("of START 20", planted(flat(3, 2), 20, 20, 20).about(5), 120);
        due("of START -20", planted(flat(3, 2), -20, -20, -20).about(5), -120);
        due("each place", planted("3;0,0,0,0,0,0,0,0,0;0,0,0;1,-2,2", 1, 10, 20).about(5), 21);
        RestGains x = million(3, 1);
        for (int what = 12; what < 15; what++) {
            x.alter(what, 2);
        }
        due("of START 1000000", x.about(5), 6000000);
    }

    // ---- gain

    @Says(promise = 13, words = "Fractions are told in lowest terms, what is below being above 0 (0 is 0 by 1)")
    private static void gainsInLowestTerms() {
        long[][] due = {{2, 1, 2, 1}, {1, 2, 1, 2}, {1, -2, -1, 2}, {-1, 2, -1, 2}, {-2, -2, 1, 1}, {2, -2, -1, 1}, {0, -2, 0, 1}, {0, 1, 0, 1}, {2, -1, -2, 1}};
        for (long[] of : due) {
            RestGains x = planted("1;" + of[0] + ";" + of[1] + ";" + of[1]);
            row("gains of " + of[0] + " by " + of[1], gains(x, false, 1), of[2], of[3]);
            row("watcher of " + of[0] + " by " + of[1], gains(x, true, 1), of[2], of[3]);
        }
    }

    @Says(promise = 13, words = "Fractions are told in lowest terms, what is below being above 0 (0 is 0 by 1)")
    private static void zerosAndWholesAmongFractions() {
        row("all 0", gains(planted("3;0,1,0,0,0,1,0,0,0;0,0,-2;-2,0,0"), false, 3), 0, 1, 0, 1, 0, 1);
        row("all 0", gains(planted("3;0,1,0,0,0,1,0,0,0;0,0,-2;-2,0,0"), true, 3), 0, 1, 0, 1, 0, 1);
        row("by 8, 4 and 2", gains(planted(THREE), false, 3), 9, 8, 3, 4, 3, 2);
        row("below 0", gains(planted("3;1,2,0,0,1,2,2,0,1;0,0,-2;1,1,0"), false, 3), -9, 8, -3, 4, -3, 2);
        row("below 0", gains(planted("3;1,2,0,0,1,2,2,0,1;0,0,2;-1,-1,0"), true, 3), -15, 8, -9, 8, -3, 8);
    }

    @Says(promise = 13, words = "UNKNOWN: place; OUTSIDE: part; STATE: it does not OBEY, or SHOW")
    private static void gainsOfPlacesJustOutside() {
        for (int order = 1; order <= 3; order++) {
            int of = order;
            for (int bad : new int[] {-1, order, 3}) {
                for (int part : new int[] {-1, 0, 1, 2}) {
                    refused("gain(false, " + bad + ", " + part + ")", () -> busy(OBEYS_AND_SHOWS, of), x -> x.gain(false, bad, part), UNKNOWN);
                    refused("gain(true, " + bad + ", " + part + ")", () -> busy(NEITHER, of), x -> x.gain(true, bad, part), UNKNOWN);
                }
            }
            for (int bad : FAR) {
                refused("gain(false, " + bad + ", 0)", () -> busy(NEITHER, of), x -> x.gain(false, bad, 0), UNKNOWN);
            }
        }
        refused("gain(false, 0, 2) without a plant", RestGains::new, x -> x.gain(false, 0, 2), UNKNOWN);
    }

    @Says(promise = 13, words = "OUTSIDE: part; STATE: it does not OBEY, or SHOW")
    private static void gainsOfPartsJustOutside() {
        for (int order = 1; order <= 3; order++) {
            int of = order;
            for (int part : new int[] {-1, 2}) {
                for (int place = 0; place < order; place++) {
                    int at = place;
                    refused("gain(false, " + place + ", " + part + ")", () -> busy(OBEYS_AND_SHOWS, of), x -> x.gain(false, at, part), OUTSIDE);
                    refused("gain(true, " + place + ", " + part + ")", () -> busy(NEITHER, of), x -> x.gain(true, at, part), OUTSIDE);
                    refused("gain(false, " + place + ", " + part + ")", () -> busy(NEITHER, of), x -> x.gain(false, at, part), OUTSIDE);
                }
            }
            for (int part : FAR) {
                refused("gain(true, 0, " + part + ")", () -> busy(NEITHER, of), x -> x.gain(true, 0, part), OUTSIDE);
            }
        }
    }

    @Says(promise = 13, words = "STATE: it does not OBEY, or SHOW")
    private static void noGainsOfOneThatDoesNotObeyOrShow() {
        for (int order = 1; order <= 3; order++) {
            int of = order;
            for (int i = 0; i < 2 * order; i++) {
                int place = i / 2;
                int part = i % 2;
                refused("gain(false, " + place + ", " + part + ")", () -> busy(NEITHER, of), x -> x.gain(false, place, part), STATE);
                refused("gain(true, " + place + ", " + part + ")", () -> busy(NEITHER, of), x -> x.gain(true, place, part), STATE);
                refused("gain(false, " + place + ", " + part + ")", () -> busy(ONLY_SHOWS, of), x -> x.gain(false, place, part), STATE);
                refused("gain(true, " + place + ", " + part + ")", () -> busy(ONLY_OBEYS, of), x -> x.gain(true, place, part), STATE);
                due("gain(false, ..)", busy(ONLY_OBEYS, order).gain(false, place, part) == STATE ? 1 : 0, 0);
                due("gain(true, ..)", busy(ONLY_SHOWS, order).gain(true, place, part) == STATE ? 1 : 0, 0);
            }
        }
    }

    @Says(promise = 13, words = "STATE: it does not OBEY, or SHOW")
    private static void gainsComeAndGoWithAlter() {
        RestGains x = planted(SHIFT);
        x.alter(10, 0);
        due("does not obey any more", x.gain(false, 0, 0), STATE);
        due("shows yet", x.gain(true, 0, 0), 2);
        x.alter(10, -1);
        due("obeys again", x.gain(false, 1, 0), -2);
        x.alter(1, 0);
        due("does not obey any more", x.gain(false, 0, 0), STATE);
        due("does not show any more", x.gain(true, 0, 0), STATE);
    }

    // ---- after

    @Says(promise = 14, words = "behind so many TICKS, at a place: part 0 above, 1 below")
    private static void fromTheStartToTheLastTick() {
        RestGains x = planted(THREE, 1, -2, 4);
        row("brought 0", after(x, false, 0, 3), 1, 1, -2, 1, 4, 1);
        row("brought 1", after(x, false, 1, 3), -3, 1, 6, 1, -21, 4);
        row("brought 2", after(x, false, 2, 3), 9, 1, -9, 2, 9, 4);
        row("missed 0", after(x, true, 0, 3), 1, 1, -2, 1, 4, 1);
        row("missed 1", after(x, true, 1, 3), -9, 8, 57, 8, 51, 8);
        for (int ticks = 3; ticks <= 4; ticks++) {
            row("brought " + ticks, after(x, false, ticks, 3), 0, 1, 0, 1, 0, 1);
            row("missed " + ticks, after(x, true, ticks, 3), 0, 1, 0, 1, 0, 1);
        }
    }

    @Says(promise = 14, words = "each STATE is all 0 behind ORDER TICKS")
    private static void atRestBehindOrderTicksNotAhead() {
        for (int order = 1; order <= 3; order++) {
            for (boolean watcher : new boolean[] {false, true}) {
                boolean moves = false;
                for (int place = 0; place < order; place++) {
                    RestGains x = planted(OBEYS_AND_SHOWS[order]);
                    x.start(place, 20);
                    for (int ticks = order; ticks <= 4; ticks++) {
                        for (int at = 0; at < order; at++) {
                            due("above, behind " + ticks, x.after(watcher, ticks, at, 0), 0);
                            due("below, behind " + ticks, x.after(watcher, ticks, at, 1), 1);
                        }
                    }
                    for (int at = 0; at < order; at++) {
                        moves |= x.after(watcher, order - 1, at, 0) != 0;
                    }
                }
                due("some START is not at rest a tick ahead", moves ? 1 : 0, 1);
            }
        }
    }

    @Says(promise = 14, words = "OUTSIDE: ticks (0 to 4), part")
    private static void ticksAndPartsJustOutside() {
        for (int order = 1; order <= 3; order++) {
            int of = order;
            for (String[] kind : new String[][] {OBEYS_AND_SHOWS, NEITHER}) {
                for (boolean watcher : new boolean[] {false, true}) {
                    refused("after(.., -1, 0, 0)", () -> busy(kind, of), x -> x.after(watcher, -1, 0, 0), OUTSIDE);
                    refused("after(.., 5, 0, 1)", () -> busy(kind, of), x -> x.after(watcher, 5, 0, 1), OUTSIDE);
                    refused("after(.., 0, 0, -1)", () -> busy(kind, of), x -> x.after(watcher, 0, 0, -1), OUTSIDE);
                    refused("after(.., 4, 0, 2)", () -> busy(kind, of), x -> x.after(watcher, 4, 0, 2), OUTSIDE);
                }
            }
        }
        for (int bad : FAR) {
            refused("after(false, " + bad + ", 0, 0)", () -> busy(OBEYS_AND_SHOWS, 2), x -> x.after(false, bad, 0, 0), OUTSIDE);
            refused("after(true, 0, 0, " + bad + ")", () -> busy(OBEYS_AND_SHOWS, 2), x -> x.after(true, 0, 0, bad), OUTSIDE);
        }
    }

    @Says(promise = 14, words = "UNKNOWN: place; OUTSIDE: ticks (0 to 4), part; STATE: it does not OBEY, or SHOW")
    private static void placesJustOutsideComeFirst() {
        for (int order = 1; order <= 3; order++) {
            int of = order;
            for (int bad : new int[] {-1, order, 3, Integer.MIN_VALUE, Integer.MAX_VALUE}) {
                refused("after(false, 0, " + bad + ", 0)", () -> busy(OBEYS_AND_SHOWS, of), x -> x.after(false, 0, bad, 0), UNKNOWN);
                refused("after(true, 5, " + bad + ", 0)", () -> busy(OBEYS_AND_SHOWS, of), x -> x.after(true, 5, bad, 0), UNKNOWN);
                refused("after(true, 0, " + bad + ", 2)", () -> busy(NEITHER, of), x -> x.after(true, 0, bad, 2), UNKNOWN);
                refused("after(false, -1, " + bad + ", -1)", () -> busy(NEITHER, of), x -> x.after(false, -1, bad, -1), UNKNOWN);
            }
        }
        refused("after(false, 5, 0, 2) without a plant", RestGains::new, x -> x.after(false, 5, 0, 2), UNKNOWN);
    }

    @Says(promise = 14, words = "STATE: it does not OBEY, or SHOW")
    private static void notAfterIfItDoesNotObeyOrShow() {
        for (int order = 1; order <= 3; order++) {
            int of = order;
            for (int ticks = 0; ticks <= 4; ticks += 4) {
                int behind = ticks;
                refused("after(false, ..)", () -> busy(NEITHER, of), x -> x.after(false, behind, 0, 0), STATE);
                refused("after(true, ..)", () -> busy(NEITHER, of), x -> x.after(true, behind, of - 1, 1), STATE);
                refused("after(false, ..)", () -> busy(ONLY_SHOWS, of), x -> x.after(false, behind, of - 1, 1), STATE);
                refused("after(true, ..)", () -> busy(ONLY_OBEYS, of), x -> x.after(true, behind, 0, 0), STATE);
                due("after(false, ..)", busy(ONLY_OBEYS, order).after(false, ticks, order - 1, 1), 1);
                due("after(true, ..)", busy(ONLY_SHOWS, order).after(true, ticks, order - 1, 1), 1);
            }
        }
    }

    @Says(promise = 14, words = "BROUGHT: the STATES, INPUTS from START on by GAINS")
    private static void fromTheFarthestStart() {
        for (int sign = -1; sign <= 1; sign += 2) {
            RestGains x = million(3, sign);
            int[] cells = {1, 2, 0, 0, 1, 2, 2, 0, 1, 0, 0, 2, 1, 1, 0};
            for (int what = 0; what < 15; what++) {
                x.alter(what, cells[what]);
            }
            long m = sign * 1000000L;
            row("brought 0", after(x, false, 0, 3), m, 1, m, 1, m, 1);
            row("brought 1", after(x, false, 1, 3), 3 * m, 1, 3 * m, 1, -15 * m / 4, 1);
            row("missed 1", after(x, true, 1, 3), -3 * m / 4, 1, 3 * m / 4, 1, 9 * m / 4, 1);
            row("brought 3", after(x, false, 3, 3), 0, 1, 0, 1, 0, 1);
            row("missed 3", after(x, true, 3, 3), 0, 1, 0, 1, 0, 1);
            due("input(0, 0)", x.input(0, 0), -27 * m / 8);
        }
    }

    // ---- input

    @Says(promise = 15, words = "INPUT of a TICK (from 0) by GAINS from START on: part 0 above, 1 below")
    private static void firstAndLastInput() {
        RestGains x = planted(THREE, 1, -2, 4);
        long[] want = {-45, 8, 27, 4, -81, 8, 0, 1, 0, 1};
        for (int i = 0; i < want.length; i++) {
            due("input(" + i / 2 + ", " + i % 2 + ")", x.input(i / 2, i % 2), want[i]);
        }
        RestGains rest = planted(THREE);
        for (int tick = 0; tick <= 4; tick++) {
            due("input(" + tick + ", 0) at rest", rest.input(tick, 0), 0);
            due("input(" + tick + ", 1) at rest", rest.input(tick, 1), 1);
        }
    }

    @Says(promise = 15, words = "OUTSIDE: tick (0 to 4), part")
    private static void inputsJustOutside() {
        for (int order = 1; order <= 3; order++) {
            int of = order;
            refused("input(-1, 0)", () -> busy(OBEYS_AND_SHOWS, of), x -> x.input(-1, 0), OUTSIDE);
            refused("input(5, 1)", () -> busy(OBEYS_AND_SHOWS, of), x -> x.input(5, 1), OUTSIDE);
            refused("input(0, -1)", () -> busy(ONLY_OBEYS, of), x -> x.input(0, -1), OUTSIDE);
            refused("input(4, 2)", () -> busy(ONLY_OBEYS, of), x -> x.input(4, 2), OUTSIDE);
            due("input(0, 1)", busy(ONLY_OBEYS, order).input(0, 1), 1);
            due("input(4, 1)", busy(ONLY_OBEYS, order).input(4, 1), 1);
        }
        for (int bad : FAR) {
            refused("input(" + bad + ", 0)", () -> busy(OBEYS_AND_SHOWS, 3), x -> x.input(bad, 0), OUTSIDE);
            refused("input(0, " + bad + ")", () -> busy(OBEYS_AND_SHOWS, 3), x -> x.input(0, bad), OUTSIDE);
        }
    }

    @Says(promise = 15, words = "STATE: no PLANT, or it does not OBEY; OUTSIDE: tick (0 to 4), part")
    private static void stateComesAheadOfOutside() {
        for (int tick : new int[] {-1, 0, 4, 5}) {
            for (int part : new int[] {-1, 0, 1, 2}) {
                String call = "input(" + tick + ", " + part + ")";
                refused(call + " without a plant", RestGains::new, x -> x.input(tick, part), STATE);
                for (int order = 1; order <= 3; order++) {
                    int of = order;
                    refused(call, () -> busy(NEITHER, of), x -> x.input(tick, part), STATE);
                    refused(call, () -> busy(ONLY_SHOWS, of), x -> x.input(tick, part), STATE);
                }
            }
        }
    }

    // ---- most

    @Says(promise = 16, words = "the fewest TICKS behind which the STATE is all 0")
    private static void mostOfEachOrder() {
        for (int order = 1; order <= 3; order++) {
            RestGains x = planted(OBEYS_AND_SHOWS[order]);
            due("most(false) at rest", x.most(false), order);
            due("most(true) at rest", x.most(true), order);
            x.start(0, 20);
            due("most(false) of START 20", x.most(false), order);
            due("most(true) of START 20", x.most(true), order);
        }
    }

    @Says(promise = 16, words = "By GAINS, for any START")
    private static void mostWithoutAnyGain() {
        due("a table of 0", planted("1;0;1;1").most(false), 1);
        due("a table of 0", planted("1;0;1;1").most(true), 1);
        due("gains of 0", planted("3;0,1,0,0,0,1,0,0,0;0,0,1;1,0,0").most(false), 3);
        due("a watcher of 0", planted("3;0,1,0,0,0,1,0,0,0;0,0,1;1,0,0").most(true), 3);
    }

    @Says(promise = 16, words = "STATE: no PLANT, or it does not OBEY, or SHOW")
    private static void noMost() {
        refused("most(false) without a plant", RestGains::new, x -> x.most(false), STATE);
        refused("most(true) without a plant", RestGains::new, x -> x.most(true), STATE);
        for (int order = 1; order <= 3; order++) {
            int of = order;
            refused("most(false)", () -> busy(NEITHER, of), x -> x.most(false), STATE);
            refused("most(true)", () -> busy(NEITHER, of), x -> x.most(true), STATE);
            refused("most(false)", () -> busy(ONLY_SHOWS, of), x -> x.most(false), STATE);
            refused("most(true)", () -> busy(ONLY_OBEYS, of), x -> x.most(true), STATE);
            due("most(false)", busy(ONLY_OBEYS, order).most(false), order);
            due("most(true)", busy(ONLY_SHOWS, order).most(true), order);
        }
    }
}
