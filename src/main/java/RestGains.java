/**
 * A plant of order 1 to 3, told by small whole numbers: what pushes reach, what is seen of it, the
 * gains that bring any start to rest in the fewest ticks, plans of whole pushes, and a watcher.
 *
 * A plant of a lower order is held as one of order 3 whose other numbers are all 0: its states
 * never leave the first places, so the same sums serve every order.
 *
 * All fractions of one kind share what is below (a determinant that is at most some 9,000), so the
 * work is done in whole numbers; with states up to 1,000,000 nothing passes some 10 to the 15th.
 */
public final class RestGains {
    public static final long NONE = -10000000000001L, UNKNOWN = -10000000000002L, OUTSIDE = -10000000000003L, STATE = -10000000000004L, FULL = -10000000000005L;

    private static final int SIZE = 3;
    private static final int PUSH = 9;
    private static final int VIEW = 12;
    private static final int CELLS = 15;
    private static final int MOST_LETTERS = 46;
    private static final int SPARE_TICKS = 3;
    private static final int MOST_INPUTS = 6;
    private static final int MOST_TICKS = 4;
    private static final int MOST_START = 20;
    private static final int MOST_TICK_INPUT = 100;
    private static final long MOST_STATE = 1000000L;

    private final Page page = new Page();
    private final Plant plant = new Plant();
    private final Chain reach = new Chain(false);
    private final Chain sight = new Chain(true);
    private final Planner planner = new Planner();
    private final long[] start = new long[SIZE];
    private final long[] way = new long[SIZE];
    private final long[] next = new long[SIZE];
    private int limit = 2;
    private int plantsRead = 0;
    private int ticksGone = 0;
    private boolean planned = false;

    public RestGains() {
    }

    // ---- texts

    public long letter(int code) {
        if (code < 32 || code > 126) {
            return OUTSIDE;
        }
        if (page.length >= MOST_LETTERS) {
            return FULL;
        }
        page.write(code);
        return page.length;
    }

    public long blank() {
        int had = page.length;
        page.length = 0;
        return had;
    }

    public long fault() {
        return page.wellBegun();
    }

    public long plant() {
        if (!page.isPlant()) {
            return STATE;
        }
        page.copyTo(plant);
        page.length = 0;
        for (int place = 0; place < SIZE; place++) {
            start[place] = 0;
        }
        plantsRead++;
        plantChanged();
        return plant.order;
    }

    // ---- what is told

    public long alter(int what, int v) {
        if (!plant.hasCell(what)) {
            return UNKNOWN;
        }
        if (v < -2 || v > 2) {
            return OUTSIDE;
        }
        int was = plant.cells[what];
        plant.cells[what] = v;
        plantChanged();
        return was;
    }

    public long has(int what) {
        return plant.hasCell(what) ? plant.cells[what] : UNKNOWN;
    }

    public long start(int place, int v) {
        if (!plant.hasPlace(place)) {
            return UNKNOWN;
        }
        if (v < -MOST_START || v > MOST_START) {
            return OUTSIDE;
        }
        long was = start[place];
        start[place] = v;
        planned = false;
        return was;
    }

    public long limit(int v) {
        if (v < 1 || v > 5) {
            return OUTSIDE;
        }
        int was = limit;
        limit = v;
        planned = false;
        return was;
    }

    public long tick(int input) {
        if (plant.order == 0) {
            return STATE;
        }
        if (input < -MOST_TICK_INPUT || input > MOST_TICK_INPUT) {
            return OUTSIDE;
        }
        plant.goOn(false, start, next);
        for (int place = 0; place < SIZE; place++) {
            next[place] += (long) plant.cells[PUSH + place] * input;
            if (next[place] < -MOST_STATE || next[place] > MOST_STATE) {
                return STATE;
            }
        }
        copy(next, start);
        ticksGone++;
        planned = false;
        return plant.seen(start);
    }

    // ---- what can be reached, seen

    public long row(boolean sight, int row, int place) {
        if (!plant.hasPlace(row) || !plant.hasPlace(place)) {
            return UNKNOWN;
        }
        return chain(sight).rows[row][place];
    }

    public long about(int what) {
        if (plant.order == 0) {
            return STATE;
        }
        switch (what) {
            case 0:
                return reach.rank;
            case 1:
                return sight.rank;
            case 2:
                return isFull(reach) ? 1 : 0;
            case 3:
                return isFull(sight) ? 1 : 0;
            case 4:
                return canRest() ? 1 : 0;
            case 5:
                return plant.seen(start);
            default:
                return OUTSIDE;
        }
    }

    // ---- gains, watcher

    public long gain(boolean watcher, int place, int part) {
        if (!plant.hasPlace(place)) {
            return UNKNOWN;
        }
        if (!isPart(part)) {
            return OUTSIDE;
        }
        Chain chain = chain(watcher);
        return isFull(chain) ? fraction(chain.gains[place], chain.below, part) : STATE;
    }

    public long after(boolean watcher, int ticks, int place, int part) {
        if (!plant.hasPlace(place)) {
            return UNKNOWN;
        }
        if (ticks < 0 || ticks > MOST_TICKS || !isPart(part)) {
            return OUTSIDE;
        }
        Chain chain = chain(watcher);
        if (!isFull(chain)) {
            return STATE;
        }
        goTheWay(watcher, ticks);
        return fraction(way[place], chain.below, part);
    }

    public long input(int tick, int part) {
        if (!isFull(reach)) {
            return STATE;
        }
        if (tick < 0 || tick > MOST_TICKS || !isPart(part)) {
            return OUTSIDE;
        }
        goTheWay(false, tick);
        return fraction(-quotient(dot(reach.gains, way), reach.below), reach.below, part);
    }

    /** With full rank the last state but one is never 0 for every start, so it is always ORDER. */
    public long most(boolean watcher) {
        return isFull(chain(watcher)) ? plant.order : STATE;
    }

    // ---- plans

    public long plan(int what) {
        if (plant.order == 0) {
            return STATE;
        }
        if (what != 0 && (what < 10 || what >= 10 + MOST_INPUTS)) {
            return OUTSIDE;
        }
        if (!planned) {
            planner.seek(plant, reach, start, limit);
            planned = true;
        }
        if (what == 0) {
            return planner.ticks < 0 ? NONE : planner.ticks;
        }
        return what - 10 < planner.ticks ? planner.inputs[what - 10] : NONE;
    }

    // ---- what is told of all

    public long count(int what) {
        switch (what) {
            case 0:
                return plant.order;
            case 1:
                return page.length;
            case 2:
                return limit;
            case 3:
                return plantsRead;
            case 4:
                return ticksGone;
            default:
                return OUTSIDE;
        }
    }

    public long digest() {
        long h = 1721;
        for (int what = 0; what < CELLS; what++) {
            if (plant.hasCell(what)) {
                h = 31 * h + plant.cells[what];
            }
        }
        if (plant.order > 0) {
            h = withPlant(h);
        }
        for (int at = 0; at < page.length; at++) {
            h = 31 * h + page.letters[at];
        }
        for (int what = 0; what < 5; what++) {
            h = 31 * h + count(what);
        }
        return h;
    }

    private long withPlant(long h) {
        for (int place = 0; place < plant.order; place++) {
            h = 31 * h + start[place];
        }
        h = withRows(h, reach);
        h = withRows(h, sight);
        for (int what = 0; what < 6; what++) {
            h = 31 * h + about(what);
        }
        h = withGains(h, false);
        h = withGains(h, true);
        h = 31 * h + plan(0);
        for (int what = 10; what < 10 + MOST_INPUTS; what++) {
            h = 31 * h + plan(what);
        }
        return h;
    }

    private long withRows(long h, Chain chain) {
        for (int row = 0; row < plant.order; row++) {
            for (int place = 0; place < plant.order; place++) {
                h = 31 * h + chain.rows[row][place];
            }
        }
        return h;
    }

    private long withGains(long h, boolean watcher) {
        if (!isFull(chain(watcher))) {
            return h;
        }
        for (int place = 0; place < plant.order; place++) {
            h = 31 * h + gain(watcher, place, 0);
            h = 31 * h + gain(watcher, place, 1);
        }
        h = 31 * h + most(watcher);
        for (int tick = 0; tick < 3 && !watcher; tick++) {
            h = 31 * h + input(tick, 0);
            h = 31 * h + input(tick, 1);
        }
        for (int ticks = 1; ticks < 3; ticks++) {
            for (int place = 0; place < plant.order; place++) {
                h = 31 * h + after(watcher, ticks, place, 0);
                h = 31 * h + after(watcher, ticks, place, 1);
            }
        }
        return h;
    }

    private void plantChanged() {
        reach.build(plant);
        sight.build(plant);
        planned = false;
    }

    private Chain chain(boolean ofSight) {
        return ofSight ? sight : reach;
    }

    private boolean isFull(Chain chain) {
        return plant.order > 0 && chain.rank == plant.order;
    }

    private boolean canRest() {
        copy(start, way);
        plant.carry(false, way, plant.order);
        return reach.spans(way, reach.rank);
    }

    /** The way is BROUGHT or MISSED, times what is below; each division leaves nothing over. */
    private void goTheWay(boolean watcher, int ticks) {
        Chain chain = chain(watcher);
        for (int place = 0; place < SIZE; place++) {
            way[place] = start[place] * chain.below;
        }
        for (int tick = 0; tick < ticks; tick++) {
            long sum = watcher ? plant.seen(way) : dot(chain.gains, way);
            plant.goOn(false, way, next);
            for (int place = 0; place < SIZE; place++) {
                long weight = watcher ? chain.gains[place] : plant.cells[PUSH + place];
                way[place] = next[place] - quotient(weight * sum, chain.below);
            }
        }
    }

    private static boolean isPart(int part) {
        return part == 0 || part == 1;
    }

    private static void copy(long[] from, long[] to) {
        for (int place = 0; place < SIZE; place++) {
            to[place] = from[place];
        }
    }

    private static long dot(long[] one, long[] other) {
        return one[0] * other[0] + one[1] * other[1] + one[2] * other[2];
    }

    /** To gets the row that is square to both; to is neither of them. */
    private static void cross(long[] one, long[] other, long[] to) {
        to[0] = one[1] * other[2] - one[2] * other[1];
        to[1] = one[2] * other[0] - one[0] * other[2];
        to[2] = one[0] * other[1] - one[1] * other[0];
    }

    private static void setUnit(long[] row, int at) {
        for (int place = 0; place < SIZE; place++) {
            row[place] = place == at ? 1 : 0;
        }
    }

    private static int firstNotZero(long[] row) {
        int place = 0;
        while (place < SIZE && row[place] == 0) {
            place++;
        }
        return place;
    }

    private static long quotient(long above, long below) {
        return below == 0 ? 0 : above / below;
    }

    private static long fraction(long above, long below, int part) {
        long common = commonDivisor(Math.abs(above), Math.abs(below));
        long scale = below < 0 ? -common : common;
        return quotient(part == 0 ? above : below, scale);
    }

    /** Euclid's way; two longs need fewer than a hundred steps. */
    private static long commonDivisor(long one, long other) {
        long greater = one;
        long lesser = other;
        for (int step = 0; step < 100 && lesser != 0; step++) {
            long rest = greater % lesser;
            greater = lesser;
            lesser = rest;
        }
        return greater;
    }

    /** What is told of a plant; an order of 0 says that there is none. */
    private static final class Plant {
        final int[] cells = new int[CELLS];
        int order = 0;
        private final long[] spare = new long[SIZE];

        boolean hasPlace(int place) {
            return place >= 0 && place < order;
        }

        boolean hasCell(int what) {
            if (what < 0 || what >= CELLS) {
                return false;
            }
            return what % SIZE < order && (what >= PUSH || what / SIZE < order);
        }

        /** One tick without input; across: by the table's columns, as SIGHT goes on. */
        void goOn(boolean across, long[] from, long[] to) {
            for (int place = 0; place < SIZE; place++) {
                long sum = 0;
                for (int other = 0; other < SIZE; other++) {
                    int what = across ? SIZE * other + place : SIZE * place + other;
                    sum += cells[what] * from[other];
                }
                to[place] = sum;
            }
        }

        void carry(boolean across, long[] state, int ticks) {
            for (int tick = 0; tick < ticks; tick++) {
                goOn(across, state, spare);
                copy(spare, state);
            }
        }

        long seen(long[] state) {
            return cells[VIEW] * state[0] + cells[VIEW + 1] * state[1] + cells[VIEW + 2] * state[2];
        }
    }

    /** THE PAGE, and how far it is the beginning of a plant. */
    private static final class Page {
        private static final int ORDER_DUE = 0;
        private static final int SIGN_DUE = 1;
        private static final int NUMBER_DUE = 2;
        private static final int FIGURE_DUE = 3;

        final int[] letters = new int[MOST_LETTERS];
        int length = 0;
        private final int[] numbers = new int[CELLS];
        private int order = 0;
        private int done = 0;
        private int due = ORDER_DUE;

        void write(int code) {
            if (length < MOST_LETTERS) {
                letters[length] = code;
                length++;
            }
        }

        /** How many letters, from the first on, are the beginning of some plant. */
        int wellBegun() {
            order = 0;
            done = 0;
            due = ORDER_DUE;
            int at = 0;
            while (at < length && takes(letters[at])) {
                at++;
            }
            return at;
        }

        boolean isPlant() {
            return wellBegun() == length && order > 0 && done == needed();
        }

        /** To be called when isPlant() has just said so. */
        void copyTo(Plant plant) {
            for (int what = 0; what < CELLS; what++) {
                plant.cells[what] = 0;
            }
            plant.order = order;
            int from = 0;
            for (int what = 0; what < CELLS; what++) {
                if (plant.hasCell(what)) {
                    plant.cells[what] = numbers[from];
                    from++;
                }
            }
        }

        private int needed() {
            return order * order + 2 * order;
        }

        private boolean takes(int code) {
            switch (due) {
                case ORDER_DUE:
                    return takesOrder(code);
                case SIGN_DUE:
                    return takesSign(code);
                case NUMBER_DUE:
                    return takesNumber(code);
                default:
                    return takesFigure(code);
            }
        }

        private boolean takesOrder(int code) {
            if (code < '1' || code > '3') {
                return false;
            }
            order = code - '0';
            due = SIGN_DUE;
            return true;
        }

        private boolean takesSign(int code) {
            if (done >= needed()) {
                return false;
            }
            boolean opens = done == 0 || done == order * order || done == order * order + order;
            if (code != (opens ? ';' : ',')) {
                return false;
            }
            due = NUMBER_DUE;
            return true;
        }

        private boolean takesNumber(int code) {
            if (code == '-') {
                due = FIGURE_DUE;
                return true;
            }
            return code >= '0' && code <= '2' && keeps(code - '0');
        }

        private boolean takesFigure(int code) {
            return code >= '1' && code <= '2' && keeps('0' - code);
        }

        private boolean keeps(int number) {
            if (done >= CELLS) {
                return false;
            }
            numbers[done] = number;
            done++;
            due = SIGN_DUE;
            return true;
        }
    }

    /**
     * REACH or SIGHT: rows that follow from a first one, and how any row is a sum of them. Once a
     * row is a sum of those ahead of it, so is each one behind it: the first RANK rows are free of
     * one another, and unit rows fill them up to a base of all rows.
     */
    private static final class Chain {
        final long[][] rows = new long[SIZE][SIZE];
        final long[] gains = new long[SIZE];
        int rank = 0;
        /** What is below in the parts of a row, and in the gains. Never 0. */
        long below = 1;
        private final boolean across;
        private final long[][] base = new long[SIZE][SIZE];
        private final long[][] square = new long[SIZE][SIZE];
        private final long[] spare = new long[SIZE];

        Chain(boolean across) {
            this.across = across;
        }

        void build(Plant plant) {
            for (int place = 0; place < SIZE; place++) {
                rows[0][place] = plant.cells[(across ? VIEW : PUSH) + place];
            }
            plant.goOn(across, rows[0], rows[1]);
            plant.goOn(across, rows[1], rows[2]);
            fillBase();
            cross(base[1], base[2], square[0]);
            cross(base[2], base[0], square[1]);
            cross(base[0], base[1], square[2]);
            below = dot(base[0], square[0]);
            findGains(plant);
        }

        /** How often a row of the base is in this row, times what is below. */
        long share(int baseRow, long[] row) {
            return dot(square[baseRow], row);
        }

        /** Whether a row is a sum of multiples of the first rows of the base, so many of them. */
        boolean spans(long[] row, int first) {
            for (int baseRow = first; baseRow < SIZE; baseRow++) {
                if (share(baseRow, row) != 0) {
                    return false;
                }
            }
            return true;
        }

        private void fillBase() {
            cross(rows[0], rows[1], spare);
            for (int row = 0; row < SIZE; row++) {
                copy(rows[row], base[row]);
            }
            if (dot(spare, rows[2]) != 0) {
                rank = 3;
                return;
            }
            int apart = firstNotZero(spare);
            if (apart < SIZE) {
                rank = 2;
                setUnit(base[2], apart);
                return;
            }
            int along = firstNotZero(rows[0]);
            rank = along < SIZE ? 1 : 0;
            if (rank == 0) {
                along = 0;
                setUnit(base[0], along);
            }
            setUnit(base[1], (along + 1) % SIZE);
            setUnit(base[2], (along + 2) % SIZE);
        }

        /**
         * The first of the ORDER inputs meets the last row of the chain, so the gain at a place is
         * that row's share in what a 1 at this place becomes in ORDER ticks. (Of the watcher the
         * same is true with the table's rows and columns exchanged.)
         */
        private void findGains(Plant plant) {
            for (int place = 0; place < SIZE; place++) {
                setUnit(spare, place);
                plant.carry(across, spare, plant.order);
                boolean has = plant.order > 0 && rank == plant.order;
                gains[place] = has ? share(plant.order - 1, spare) : 0;
            }
        }
    }

    /**
     * Looks for SHORTEST. The last RANK inputs follow from those ahead of them, so only these (three
     * at most) are tried, from the least on; the number of a try, written with a figure for each
     * input, tells them.
     */
    private static final class Planner {
        final int[] inputs = new int[MOST_INPUTS];
        /** Below 0: there is no plan. */
        int ticks = -1;
        private final long[] due = new long[SIZE];
        private final long[][] shares = new long[SPARE_TICKS][SIZE];
        private final long[] spare = new long[SIZE];
        private int limit = 1;
        private int tried = 0;
        private int bound = 0;

        void seek(Plant plant, Chain reach, long[] start, int most) {
            limit = most;
            ticks = -1;
            for (int n = 0; n <= reach.rank + SPARE_TICKS && ticks < 0; n++) {
                bound = Math.min(n, reach.rank);
                tried = n - bound;
                if (isOpen(plant, reach, start) && isMet(reach.below)) {
                    ticks = n;
                }
            }
        }

        /** Whether inputs of any size bring the start to rest; if so, what they are to be is due. */
        private boolean isOpen(Plant plant, Chain reach, long[] start) {
            copy(start, spare);
            plant.carry(false, spare, tried + bound);
            if (!reach.spans(spare, bound)) {
                return false;
            }
            for (int row = 0; row < SIZE; row++) {
                due[row] = -reach.share(row, spare);
            }
            for (int at = 0; at < tried; at++) {
                copy(reach.rows[0], spare);
                plant.carry(false, spare, tried + bound - 1 - at);
                for (int row = 0; row < SIZE; row++) {
                    shares[at][row] = reach.share(row, spare);
                }
            }
            return true;
        }

        private boolean isMet(long below) {
            int figures = 2 * limit + 1;
            int tries = 1;
            for (int at = 0; at < tried; at++) {
                tries *= figures;
            }
            for (int number = 0; number < tries; number++) {
                setTried(number, figures);
                if (restFits(below)) {
                    return true;
                }
            }
            return false;
        }

        private void setTried(int number, int figures) {
            int left = number;
            for (int at = tried - 1; at >= 0 && figures > 0; at--) {
                inputs[at] = left % figures - limit;
                left /= figures;
            }
        }

        private boolean restFits(long below) {
            for (int row = 0; row < bound; row++) {
                long sum = due[row];
                for (int at = 0; at < tried; at++) {
                    sum -= inputs[at] * shares[at][row];
                }
                long input = quotient(sum, below);
                if (input * below != sum || input < -limit || input > limit) {
                    return false;
                }
                inputs[tried + bound - 1 - row] = (int) input;
            }
            return true;
        }
    }
}
