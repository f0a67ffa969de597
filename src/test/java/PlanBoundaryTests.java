/** The boundary cases of plans: promise 17. */
public final class PlanBoundaryTests extends Boundaries {
    private static final String ADDS = "1;1;1;1";
    private static final String ADDS_THRICE = "3;1,1,0,0,1,1,0,0,1;0,0,1;1,0,0";
    private static final String DIES_OUT = "3;0,1,0,0,0,1,0,0,0;0,0,0;0,0,0";

    public static void main(String[] args) throws Exception {
        runAll(PlanBoundaryTests.class, 17);
    }

    private static RestGains busy(String text, int... start) {
        RestGains x = planted(text, start);
        x.limit(3);
        return write(x, "1;2");
    }

    private static void planned(RestGains x, int... inputs) {
        long[] want = new long[7];
        want[0] = inputs.length;
        for (int i = 0; i < 6; i++) {
            want[1 + i] = i < inputs.length ? inputs[i] : NONE;
        }
        row("plan()", plan(x), want);
    }

    private static void notPlanned(RestGains x) {
        row("no plan()", plan(x), NONE, NONE, NONE, NONE, NONE, NONE, NONE);
    }

    private static RestGains limited(int limit, RestGains x) {
        x.limit(limit);
        return x;
    }

    // ---- what

    @Says(promise = 17, words = "what = 0 how many TICKS (NONE), 10 to 15 the INPUT of that TICK")
    private static void whatJustOutside() {
        for (int what : new int[] {-1, 1, 2, 5, 8, 9, 16, 17}) {
            refused("plan(" + what + ")", () -> busy(SHIFT, 3, -1), x -> x.plan(what), OUTSIDE);
            refused("plan(" + what + ") without a plan", () -> busy(SHIFT, 20, 20), x -> x.plan(what), OUTSIDE);
            refused("plan(" + what + ") at rest", () -> busy(SHIFT), x -> x.plan(what), OUTSIDE);
        }
        for (int what : FAR) {
            refused("plan(" + what + ")", () -> busy(SHIFT, 3, -1), x -> x.plan(what), OUTSIDE);
        }
    }

    @Says(promise = 17, words = "STATE: no PLANT; OUTSIDE.")
    private static void noPlantComesAheadOfWhat() {
        for (int what : new int[] {-1, 0, 1, 9, 10, 15, 16}) {
            refused("plan(" + what + ") without a plant", RestGains::new, x -> x.plan(what), STATE);
        }
    }

    @Says(promise = 17, words = "NONE: it has not so many")
    private static void fromNoTicksToSix() {
        planned(planted(ADDS_THRICE));
        planned(planted("1;1;1;1", 1), -1);
        planned(planted(SHIFT, 1, 0), -1, 1);
        planned(planted(ADDS_THRICE, 1, 0, 0), -1, 2, -1);
        planned(planted(ADDS_THRICE, 4, 0, 0), -2, 2, 2, -2);
        planned(planted(ADDS_THRICE, 7, 0, 0), -2, 1, 2, 1, -2);
        planned(planted(ADDS_THRICE, 12, 0, 0), -2, 0, 2, 2, 0, -2);
    }

    // ---- no ticks

    @Says(promise = 17, words = "so that the STATE behind them is all 0")
    private static void atRestNoTickIsNeeded() {
        for (String text : new String[] {flat(1, 0), flat(1, 2), flat(2, 0), SHIFT, flat(3, 0), THREE, DIES_OUT}) {
            for (int limit = 1; limit <= 5; limit++) {
                planned(limited(limit, planted(text)));
            }
        }
        RestGains back = planted(ADDS, 1);
        back.tick(-1);
        planned(back);
        notPlanned(planted("3;1,0,0,0,1,0,0,0,1;0,0,0;0,0,0", 0, 0, 1));
    }

    // ---- limit

    @Says(promise = 17, words = "none less than 0 less LIMIT (1 to 5; 2 at first), none above LIMIT")
    private static void inputsAtTheLimitAndJustAbove() {
        for (int limit = 1; limit <= 5; limit++) {
            planned(limited(limit, planted(ADDS, limit)), -limit);
            planned(limited(limit, planted(ADDS, -limit)), limit);
            planned(limited(limit, planted(ADDS, limit + 1)), -limit, -1);
            planned(limited(limit, planted(ADDS, -limit - 1)), 1, limit);
        }
    }

    @Says(promise = 17, words = "LIMIT (1 to 5; 2 at first)")
    private static void twoAtFirst() {
        planned(planted(ADDS, 2), -2);
        planned(planted(ADDS, 3), -2, -1);
    }

    @Says(promise = 17, words = "A PLAN: whole INPUTS")
    private static void halvesAreNoInputs() {
        planned(planted("1;1;2;1", 4), -2);
        notPlanned(planted("1;1;2;1", 3));
        notPlanned(planted("1;1;-2;1", -1));
        planned(planted("1;2;2;1", 1), -1);
    }

    // ---- how many ticks

    @Says(promise = 17, words = "none, if none has RANK of REACH and 3 TICKS or fewer")
    private static void rankNoneAndThreeTicks() {
        planned(planted(DIES_OUT, 20, 0, 0), -2);
        planned(planted(DIES_OUT, 0, 20, 0), -2, -2);
        planned(planted(DIES_OUT, 0, 0, 20), -2, -2, -2);
        notPlanned(planted("1;1;0;1", 1));
        notPlanned(planted("1;-1;0;1", 1));
    }

    @Says(promise = 17, words = "none, if none has RANK of REACH and 3 TICKS or fewer")
    private static void rankOneAndThreeTicks() {
        planned(planted(ADDS, 8), -2, -2, -2, -2);
        planned(planted(ADDS, -8), 2, 2, 2, 2);
        notPlanned(planted(ADDS, 9));
        notPlanned(planted(ADDS, -9));
        planned(limited(1, planted(ADDS, 4)), -1, -1, -1, -1);
        notPlanned(limited(1, planted(ADDS, 5)));
        RestGains edge = limited(5, planted(ADDS, 20));
        planned(edge, -5, -5, -5, -5);
        edge.tick(1);
        notPlanned(edge);
        String among = "3;1,0,0,0,0,1,0,0,0;1,0,0;0,0,0";
        planned(planted(among, 8, 0, 1), -2, -2, -2, -2);
        notPlanned(planted(among, 9, 0, 1));
    }

    @Says(promise = 17, words = "none, if none has RANK of REACH and 3 TICKS or fewer")
    private static void rankTwoAndThreeTicks() {
        planned(planted(SHIFT, 12, 0), -2, -2, 0, 2, 2);
        planned(planted(SHIFT, -12, 0), 2, 2, 0, -2, -2);
        notPlanned(planted(SHIFT, 13, 0));
        notPlanned(planted(SHIFT, -13, 0));
        String among = "3;1,1,0,0,1,0,0,0,0;0,1,0;0,0,0";
        planned(planted(among, 12, 0, 7), -2, -2, 0, 2, 2);
        notPlanned(planted(among, 13, 0, 7));
    }

    @Says(promise = 17, words = "none, if none has RANK of REACH and 3 TICKS or fewer")
    private static void rankThreeAndThreeTicks() {
        planned(limited(1, planted(ADDS_THRICE, 6, 0, 0)), -1, 0, 1, 1, 0, -1);
        planned(limited(1, planted(ADDS_THRICE, -6, 0, 0)), 1, 0, -1, -1, 0, 1);
        notPlanned(limited(1, planted(ADDS_THRICE, 5, 0, 0)));
        notPlanned(limited(1, planted(ADDS_THRICE, -5, 0, 0)));
    }

    @Says(promise = 17, words = "none, if none has RANK of REACH and 3 TICKS or fewer")
    private static void whatIsNotReachedStaysAway() {
        String beside = "2;1,0,0,1;1,0;0,0";
        planned(planted(beside, 2, 0), -2);
        notPlanned(planted(beside, 2, 1));
        notPlanned(planted(beside, 0, -1));
        planned(planted("2;1,0,0,0;1,0;0,0", 2, 1), -2);
        planned(planted("2;1,1,0,0;1,0;0,0", 2, 1), -2, -1);
    }

    // ---- which one

    @Says(promise = 17, words = "SHORTEST: the PLAN with fewest TICKS")
    private static void fewestTicksComeFirst() {
        planned(planted(ADDS, 1), -1);
        planned(planted("1;2;1;1", 1), -2);
        planned(planted(SHIFT, 3, -1), -1, 2);
    }

    @Says(promise = 17, words = "of like ones the one of the least first INPUT, then second one, and so on")
    private static void ofLikeOnesTheLeast() {
        planned(planted(ADDS, 3), -2, -1);
        planned(planted(ADDS, -3), 1, 2);
        planned(planted(ADDS, 5), -2, -2, -1);
        planned(planted(ADDS, -5), 1, 2, 2);
        planned(planted(ADDS, 7), -2, -2, -2, -1);
        planned(planted("1;-1;1;1", 3), 1, -2);
        planned(planted("1;-1;1;1", 5), 1, -2, 2);
        planned(planted("1;1;-1;1", 3), 1, 2);
    }

    @Says(promise = 17, words = "of like ones the one of the least first INPUT, then second one, and so on")
    private static void inputsWithoutAPushAreTheLeast() {
        for (int limit = 1; limit <= 5; limit++) {
            planned(limited(limit, planted("1;0;0;1", 20)), -limit);
            planned(limited(limit, planted(DIES_OUT, 1, 1, 1)), -limit, -limit, -limit);
        }
    }

    // ---- from afar, and behind other calls

    @Says(promise = 17, words = "one for each TICK from START on")
    private static void fromTheFarthestStart() {
        for (int sign = -1; sign <= 1; sign += 2) {
            notPlanned(limited(5, million(3, sign)));
            RestGains x = million(3, sign);
            int[] cells = {0, 1, 0, 0, 0, 1, 0, 0, 0, 1, 0, 0};
            for (int what = 0; what < cells.length; what++) {
                x.alter(what, cells[what]);
            }
            planned(x, -2, -2, 0);
            x.alter(0, 1);
            notPlanned(x);
        }
    }

    @Says(promise = 17, words = "one for each TICK from START on")
    private static void eachCallThatChangesAPlan() {
        RestGains x = planted(ADDS, 3);
        planned(x, -2, -1);
        x.limit(3);
        planned(x, -3);
        x.start(0, -2);
        planned(x, 2);
        x.tick(1);
        planned(x, 1);
        x.alter(9, -1);
        planned(x, -1);
        x.alter(0, 2);
        planned(x, -2);
        write(x, "1;0;0;1");
        x.plant();
        planned(x);
        x.start(0, 1);
        planned(x, -3);
    }

    @Says(promise = 17, words = "they change nothing")
    private static void refusedCallsLeaveThePlan() {
        RestGains x = planted(SHIFT, 12, 0);
        planned(x, -2, -2, 0, 2, 2);
        x.limit(6);
        x.start(0, 21);
        x.start(2, 0);
        x.tick(101);
        x.alter(0, 3);
        x.alter(2, 0);
        x.plant();
        x.plan(16);
        planned(x, -2, -2, 0, 2, 2);
    }
}
