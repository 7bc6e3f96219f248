import java.util.Arrays;

/**
 * Parts rows of numbers into a trend, a season, feasts and a rest, in exact fractions.
 * What each call promises stands in the document DOC.md.
 */
public final class SeasonRows {
    public static final int NONE = -1;

    private static final int ROWS = 4;
    private static final int TICKS = 40;
    private static final int FAR_TICKS = 80;
    private static final int GREATEST_NUMBER = 10000;
    private static final int SHORTEST_PERIOD = 2;
    private static final int LONGEST_PERIOD = 7;
    private static final int MOST_STEPS = 3;
    private static final int MOST_FEASTS = 2;
    private static final int MOST_FEAST_TICKS = 8;
    private static final int MOST_ROUNDS = 5;
    private static final int GREATEST_SHARE = 1000;

    private static final int FINE = 0;
    private static final int NO_SUCH_PLACE = 1;
    private static final int WRONG_NUMBER = 2;
    private static final int TOO_MANY = 3;
    private static final int THERE_ALREADY = 4;
    private static final int NONE_SUCH = 5;
    private static final int OPEN = 6;
    private static final int NOT_COUNTED = 7;
    private static final int NONE_AT_ALL = 8;

    private final Row[] rows = new Row[ROWS];
    private final Parting parting;
    private final Sieve sieve;
    private final Fraction answer;
    private final Sheet sheet = new Sheet();
    private final Big top = new Big();
    private final Big leastCost = new Big();
    private final Big leastBottom = new Big();
    private int latest = FINE;

    public SeasonRows() {
        for (int i = 0; i < ROWS; i++) {
            rows[i] = new Row();
        }
        Tally tally = new Tally();
        parting = new Parting(tally);
        sieve = new Sieve(parting, tally);
        answer = new Fraction(tally);
    }

    public int status() {
        return latest;
    }

    public int out(int k) {
        return sheet.byteAt(k);
    }

    // ---- ROWS

    public boolean put(int row, int tick, int v) {
        Row r = rowOf(row);
        if (r == null || !isTick(tick)) {
            return refuse(NO_SUCH_PLACE);
        }
        if (!isNumber(v)) {
            return refuse(WRONG_NUMBER);
        }
        r.setNumber(tick, v);
        return done();
    }

    public boolean fill(int row, int tick, int many, int v, int by) {
        Row r = rowOf(row);
        if (r == null || !isTick(tick)) {
            return refuse(NO_SUCH_PLACE);
        }
        if (many < 1 || many > TICKS - tick) {
            return refuse(WRONG_NUMBER);
        }
        // Numbers between the first and the last can't be outside if those two are inside.
        long last = v + (many - 1) * (long) by;
        if (!isNumber(v) || !isNumber(last)) {
            return refuse(WRONG_NUMBER);
        }
        for (int i = 0; i < many; i++) {
            r.setNumber(tick + i, v + i * by);
        }
        return done();
    }

    public boolean gap(int row, int tick) {
        Row r = rowOf(row);
        if (r == null || !isTick(tick)) {
            return refuse(NO_SUCH_PLACE);
        }
        return r.filled.drop(tick) ? done() : refuse(NONE_SUCH);
    }

    public int number(int row, int tick) {
        Row r = rowOf(row);
        if (r == null || !isTick(tick)) {
            return giveNone(NO_SUCH_PLACE);
        }
        return r.filled.has(tick) ? give(r.numbers[tick]) : giveNone(NOT_COUNTED);
    }

    public int told(int row, int what) {
        Row r = rowOf(row);
        if (r == null) {
            return giveNone(NO_SUCH_PLACE);
        }
        switch (what) {
            case 0:
                return give(r.filled.count);
            case 1:
                return give(r.countedTicks());
            case 2:
                return give(r.strangers.count);
            case 3:
                return give(r.steps.count);
            case 4:
                return give(r.feastCount);
            case 5:
                return give(r.period);
            case 6:
                return give(r.line ? 1 : 0);
            default:
                return giveNone(WRONG_NUMBER);
        }
    }

    public boolean model(int row, boolean line, int period) {
        Row r = rowOf(row);
        if (r == null) {
            return refuse(NO_SUCH_PLACE);
        }
        if (period != 0 && (period < SHORTEST_PERIOD || period > LONGEST_PERIOD)) {
            return refuse(WRONG_NUMBER);
        }
        r.line = line;
        r.period = period;
        return done();
    }

    public boolean step(int row, int tick) {
        Row r = rowOf(row);
        if (r == null || !isTick(tick)) {
            return refuse(NO_SUCH_PLACE);
        }
        if (tick == 0) {
            return refuse(WRONG_NUMBER);
        }
        if (r.steps.count >= MOST_STEPS) {
            return refuse(TOO_MANY);
        }
        return r.steps.add(tick) ? done() : refuse(THERE_ALREADY);
    }

    public boolean unstep(int row, int tick) {
        Row r = rowOf(row);
        if (r == null || !isTick(tick)) {
            return refuse(NO_SUCH_PLACE);
        }
        return r.steps.drop(tick) ? done() : refuse(NONE_SUCH);
    }

    public int feast(int row) {
        Row r = rowOf(row);
        if (r == null) {
            return giveNone(NO_SUCH_PLACE);
        }
        if (r.feastCount >= MOST_FEASTS) {
            return giveNone(TOO_MANY);
        }
        r.feastCount++;
        return give(r.feastCount - 1);
    }

    public boolean on(int row, int feast, int tick) {
        Row r = rowOf(row);
        if (r == null || !isTick(tick)) {
            return refuse(NO_SUCH_PLACE);
        }
        if (!r.hasFeast(feast)) {
            return refuse(NONE_SUCH);
        }
        TickSet ticks = r.feasts[feast];
        if (ticks.count >= MOST_FEAST_TICKS) {
            return refuse(TOO_MANY);
        }
        return ticks.add(tick) ? done() : refuse(THERE_ALREADY);
    }

    public boolean plain(int row) {
        Row r = rowOf(row);
        if (r == null) {
            return refuse(NO_SUCH_PLACE);
        }
        r.clearStepsAndFeasts();
        return done();
    }

    public boolean strange(int row, int tick, boolean is) {
        Row r = rowOf(row);
        if (r == null || !isTick(tick)) {
            return refuse(NO_SUCH_PLACE);
        }
        boolean changed = is ? r.strangers.add(tick) : r.strangers.drop(tick);
        return changed ? done() : refuse(THERE_ALREADY);
    }

    public int isStrange(int row, int tick) {
        Row r = rowOf(row);
        if (r == null || !isTick(tick)) {
            return giveNone(NO_SUCH_PLACE);
        }
        return give(r.strangers.has(tick) ? 1 : 0);
    }

    // ---- PARTING

    public int part(int row, int what) {
        Row r = rowOf(row);
        if (r == null) {
            return giveNone(NO_SUCH_PLACE);
        }
        if (what < 0 || what > 2) {
            return giveNone(WRONG_NUMBER);
        }
        if (!parting.find(r, NONE)) {
            return giveNone(OPEN);
        }
        if (what == 0) {
            parting.level(top);
            return tell(parting.places);
        }
        if (what == 1) {
            parting.slope(top);
        } else {
            parting.cost(top);
        }
        return tell(1);
    }

    public int stepBy(int row, int k) {
        Row r = rowOf(row);
        if (r == null) {
            return giveNone(NO_SUCH_PLACE);
        }
        if (k < 0 || k >= r.steps.count) {
            return giveNone(NONE_SUCH);
        }
        if (!parting.find(r, NONE)) {
            return giveNone(OPEN);
        }
        parting.unknown(parting.stepsFrom + k, top);
        return tell(1);
    }

    public int feastBy(int row, int feast) {
        Row r = rowOf(row);
        if (r == null) {
            return giveNone(NO_SUCH_PLACE);
        }
        if (!r.hasFeast(feast)) {
            return giveNone(NONE_SUCH);
        }
        if (!parting.find(r, NONE)) {
            return giveNone(OPEN);
        }
        parting.unknown(parting.feastsFrom + feast, top);
        return tell(1);
    }

    public int season(int row, int place) {
        Row r = rowOf(row);
        if (r == null) {
            return giveNone(NO_SUCH_PLACE);
        }
        if (place < 0 || place >= r.period) {
            return giveNone(NONE_SUCH);
        }
        if (!parting.find(r, NONE)) {
            return giveNone(OPEN);
        }
        parting.seasonOf(place, top);
        return tell(parting.places);
    }

    public int at(int row, int tick, int what) {
        Row r = rowOf(row);
        if (r == null || !isFarTick(tick)) {
            return giveNone(NO_SUCH_PLACE);
        }
        if (what < 0 || what > 3) {
            return giveNone(WRONG_NUMBER);
        }
        if (!parting.find(r, NONE)) {
            return giveNone(OPEN);
        }
        switch (what) {
            case 0:
                parting.trend(tick, top);
                return tell(parting.places);
            case 1:
                parting.seasonOf(parting.placeOf(tick), top);
                return tell(parting.places);
            case 2:
                parting.feastsOn(tick, top);
                return tell(1);
            default:
                parting.foretold(tick, top);
                return tell(1);
        }
    }

    public int rest(int row, int tick) {
        Row r = rowOf(row);
        if (r == null || !isTick(tick)) {
            return giveNone(NO_SUCH_PLACE);
        }
        if (!r.filled.has(tick)) {
            return giveNone(NOT_COUNTED);
        }
        if (!parting.find(r, NONE)) {
            return giveNone(OPEN);
        }
        parting.leftOver(tick, top);
        return tell(1);
    }

    public int where(int row) {
        Row r = rowOf(row);
        if (r == null) {
            return giveNone(NO_SUCH_PLACE);
        }
        int tick = r.steps.count < MOST_STEPS ? cheapestStep(r) : NONE;
        return tick == NONE ? giveNone(NONE_AT_ALL) : give(tick);
    }

    public int rounds(int row, int n, int d) {
        Row r = rowOf(row);
        if (r == null) {
            return giveNone(NO_SUCH_PLACE);
        }
        if (!isShare(n) || !isShare(d)) {
            return giveNone(WRONG_NUMBER);
        }
        if (r.filled.count == 0) {
            return giveNone(NONE_AT_ALL);
        }
        return sieve.run(r, n, d) ? give(r.strangers.count) : giveNone(OPEN);
    }

    public int pull(int row, int u, int t) {
        Row r = rowOf(row);
        if (r == null || !isTick(u) || !isFarTick(t)) {
            return giveNone(NO_SUCH_PLACE);
        }
        if (!r.counts(u)) {
            return giveNone(NOT_COUNTED);
        }
        // All parts are linear in the numbers, so the pull of u is what a row foretells
        // that has 1 at u and 0 elsewhere.
        if (!parting.find(r, u)) {
            return giveNone(OPEN);
        }
        parting.foretold(t, top);
        return tell(1);
    }

    public int right(int a, int b, int c, int whole, int k, int tick) {
        int parts = c == NONE ? 2 : 3;
        if (!areFourRows(a, b, c, whole) || k < 0 || k >= parts || !isFarTick(tick)) {
            return giveNone(NO_SUCH_PLACE);
        }
        // Part k and an even share of what is amiss is, times the number of parts:
        // the whole, less all other parts, and part k that many times less one.
        answer.start();
        boolean closed = addForetold(a, k == 0 ? parts - 1 : -1, tick)
            && addForetold(b, k == 1 ? parts - 1 : -1, tick)
            && (c == NONE || addForetold(c, k == 2 ? parts - 1 : -1, tick))
            && addForetold(whole, 1, tick);
        if (!closed) {
            return giveNone(OPEN);
        }
        answer.divideBy(parts);
        return tellAnswer();
    }

    // ---- what the calls share

    private boolean done() {
        latest = FINE;
        return true;
    }

    private boolean refuse(int why) {
        latest = why;
        return false;
    }

    private int give(int what) {
        latest = FINE;
        return what;
    }

    private int giveNone(int why) {
        latest = why;
        return NONE;
    }

    /** Tells the top in hand over the parting's bottom, and over one divisor more. */
    private int tell(int divisor) {
        answer.start();
        answer.add(top, parting.bottom, 1);
        answer.divideBy(divisor);
        return tellAnswer();
    }

    private int tellAnswer() {
        answer.reduce();
        sheet.write(answer);
        return give(sheet.length());
    }

    private boolean addForetold(int row, int times, int tick) {
        Row r = rowOf(row);
        if (r == null || !parting.find(r, NONE)) {
            return false;
        }
        parting.foretold(tick, top);
        answer.add(top, parting.bottom, times);
        return true;
    }

    private int cheapestStep(Row row) {
        int best = NONE;
        for (int tick = 1; tick < TICKS; tick++) {
            // Behind a tick that is not counted a step parts the counted ticks as one at that
            // tick would: it is OPEN, or costs as much as an earlier one.
            if (!row.counts(tick - 1) || !row.steps.add(tick)) {
                continue;
            }
            boolean closed = parting.weigh(row, NONE);
            if (closed && (best == NONE || parting.costsLessThan(leastCost, leastBottom))) {
                best = tick;
                parting.cost(leastCost);
                leastBottom.copy(parting.bottom);
            }
            row.steps.drop(tick);
        }
        return best;
    }

    private Row rowOf(int row) {
        return row >= 0 && row < ROWS ? rows[row] : null;
    }

    private static boolean isTick(int tick) {
        return tick >= 0 && tick < TICKS;
    }

    private static boolean isFarTick(int tick) {
        return tick >= 0 && tick < FAR_TICKS;
    }

    private static boolean isNumber(long v) {
        return v >= -GREATEST_NUMBER && v <= GREATEST_NUMBER;
    }

    private static boolean isShare(int v) {
        return v >= 1 && v <= GREATEST_SHARE;
    }

    private boolean areFourRows(int a, int b, int c, int whole) {
        if (rowOf(a) == null || rowOf(b) == null || rowOf(whole) == null) {
            return false;
        }
        if (c != NONE && rowOf(c) == null) {
            return false;
        }
        return a != b && a != c && a != whole && b != c && b != whole && c != whole;
    }

    /** A set of the ticks of a row. */
    private static final class TickSet {
        final boolean[] marks = new boolean[TICKS];
        int count = 0;

        boolean has(int tick) {
            return isTick(tick) && marks[tick];
        }

        /** Answers whether the set changed. */
        boolean add(int tick) {
            if (!isTick(tick) || marks[tick]) {
                return false;
            }
            marks[tick] = true;
            count++;
            return true;
        }

        /** Answers whether the set changed. */
        boolean drop(int tick) {
            if (!has(tick)) {
                return false;
            }
            marks[tick] = false;
            count--;
            return true;
        }

        void clear() {
            for (int tick = 0; tick < TICKS; tick++) {
                marks[tick] = false;
            }
            count = 0;
        }

        void copy(TickSet other) {
            for (int tick = 0; tick < TICKS; tick++) {
                marks[tick] = other.marks[tick];
            }
            count = other.count;
        }
    }

    /** The numbers of a row and its model. */
    private static final class Row {
        final int[] numbers = new int[TICKS];
        final TickSet filled = new TickSet();
        final TickSet strangers = new TickSet();
        final TickSet steps = new TickSet();
        final TickSet[] feasts = new TickSet[MOST_FEASTS];
        int feastCount = 0;
        boolean line = false;
        int period = 0;

        Row() {
            for (int i = 0; i < MOST_FEASTS; i++) {
                feasts[i] = new TickSet();
            }
        }

        void setNumber(int tick, int v) {
            if (isTick(tick)) {
                numbers[tick] = v;
                filled.add(tick);
            }
        }

        boolean counts(int tick) {
            return filled.has(tick) && !strangers.has(tick);
        }

        int countedTicks() {
            int many = 0;
            for (int tick = 0; tick < TICKS; tick++) {
                if (counts(tick)) {
                    many++;
                }
            }
            return many;
        }

        boolean hasFeast(int feast) {
            return feast >= 0 && feast < feastCount && feast < MOST_FEASTS;
        }

        void clearStepsAndFeasts() {
            steps.clear();
            for (int i = 0; i < MOST_FEASTS; i++) {
                feasts[i].clear();
            }
            feastCount = 0;
        }
    }

    /**
     * A whole number: a sign and a size below 2 to the 324th. The greatest that comes up is the
     * top of a part put right: tops of what is foretold, below 2 to the 77th each, times three
     * bottoms below 2 to the 54th, and at most five such together: below 2 to the 243rd.
     */
    private static final class Big {
        static final int LIMBS = 12;
        static final int LIMB_BITS = 27;
        static final long LIMB_MASK = (1L << LIMB_BITS) - 1;
        static final long DIVISOR_END = 1L << 54;
        static final long SMALL_DIVISOR_END = 1L << 36;
        static final int PIECE_BITS = 9;

        // Limbs from the size on are left over from other numbers.
        final long[] limbs = new long[LIMBS];
        int size = 0;
        boolean below = false;

        boolean isZero() {
            return size == 0;
        }

        void copy(Big other) {
            size = other.size;
            below = other.below;
            for (int i = 0; i < size; i++) {
                limbs[i] = other.limbs[i];
            }
        }

        void setTo(long v) {
            long left = Math.abs(v);
            below = v < 0;
            for (size = 0; size < LIMBS && left > 0; size++) {
                limbs[size] = left & LIMB_MASK;
                left = left >> LIMB_BITS;
            }
        }

        /** The number, if it is at least 0 and below 2 to the 54th, as all bottoms are. */
        long toLong() {
            long low = size > 0 ? limbs[0] : 0;
            return size > 1 ? (limbs[1] << LIMB_BITS) + low : low;
        }

        /** Finds the size anew, all limbs from the end on counting as 0. */
        void trim(int end) {
            size = Math.min(end, LIMBS);
            while (size > 0 && limbs[size - 1] == 0) {
                size--;
            }
            if (size == 0) {
                below = false;
            }
        }

        /**
         * Divides the size by a divisor from 1 to below 2 to the 54th; answers what is left over.
         * A limb goes in whole, or in pieces, so that what is left and a piece fit into a long.
         */
        long divide(long divisor) {
            if (divisor <= 1 || divisor >= DIVISOR_END) {
                return 0;
            }
            int bits = divisor < SMALL_DIVISOR_END ? LIMB_BITS : PIECE_BITS;
            long mask = (1L << bits) - 1;
            long left = 0;
            for (int i = size - 1; i >= 0; i--) {
                long limb = limbs[i];
                long share = 0;
                for (int shift = LIMB_BITS - bits; shift >= 0; shift -= bits) {
                    long now = (left << bits) + ((limb >> shift) & mask);
                    long digit = now / divisor;
                    left = now - digit * divisor;
                    share = (share << bits) + digit;
                }
                limbs[i] = share;
            }
            trim(size);
            return left;
        }

        int compareSize(Big other) {
            if (size != other.size) {
                return size < other.size ? -1 : 1;
            }
            for (int i = size - 1; i >= 0; i--) {
                if (limbs[i] != other.limbs[i]) {
                    return limbs[i] < other.limbs[i] ? -1 : 1;
                }
            }
            return 0;
        }
    }

    /**
     * Adds up products limb by limb and carries only at the end: a product of two limbs is below
     * 2 to the 54th, so that a column has room for some hundreds of them.
     */
    private static final class Tally {
        final long[] columns = new long[Big.LIMBS];
        int used = 0;

        void clear() {
            Arrays.fill(columns, 0L);
            used = 0;
        }

        void addProduct(Big a, Big b, boolean taken) {
            boolean minus = (a.below != b.below) != taken;
            for (int i = 0; i < a.size; i++) {
                long limb = minus ? -a.limbs[i] : a.limbs[i];
                for (int j = 0; j < b.size && i + j < Big.LIMBS; j++) {
                    columns[i + j] += limb * b.limbs[j];
                }
            }
            used = Math.max(used, a.size + b.size);
        }

        /** The factor's size is below 2 to the 30th. */
        void addTimes(Big a, long factor) {
            long signed = a.below ? -factor : factor;
            for (int i = 0; i < a.size; i++) {
                columns[i] += a.limbs[i] * signed;
            }
            used = Math.max(used, a.size);
        }

        void settle(Big into) {
            // A carry out of the last column used is below 2 to the 36th: two limbs hold it.
            int end = Math.min(used + 2, Big.LIMBS);
            long carry = 0;
            for (int i = 0; i < end; i++) {
                long sum = columns[i] + carry;
                into.limbs[i] = sum & Big.LIMB_MASK;
                carry = sum >> Big.LIMB_BITS;
            }
            into.below = carry < 0;
            if (into.below) {
                turnOver(into, end);
            }
            into.trim(end);
        }

        /** From the limbs of a number below 0, as a carry of -1 leaves them, to its size. */
        private static void turnOver(Big number, int end) {
            long carry = 1;
            for (int i = 0; i < end; i++) {
                long sum = Big.LIMB_MASK - number.limbs[i] + carry;
                number.limbs[i] = sum & Big.LIMB_MASK;
                carry = sum >> Big.LIMB_BITS;
            }
        }
    }

    /**
     * The parting of one row by the least squares.
     *
     * <p>The unknowns are the slope, the steps and the feasts, and for each place of the period
     * LEVEL and that place's number together (one place without a period). The places' columns
     * never meet on a tick, so they are taken out of the normal equations at once; the others
     * follow by the elimination of Bareiss, whose every division leaves nothing over and whose
     * every entry is a minor of the whole matrix. The matrix is a Gram matrix, so its minors stay
     * below the product of its diagonal: 6^5 5^2 for places, 20540 for the slope, 39 38 37 for
     * steps, 8 8 for feasts, together below 2 to the 54th; no pivot is below 0, and one is 0 just
     * if its column is made of those ahead of it, which leaves the row OPEN.
     */
    private static final class Parting {
        static final int MOST_UNKNOWNS = 1 + MOST_STEPS + MOST_FEASTS;
        static final int SIDE = MOST_UNKNOWNS + 1;

        final Tally tally;
        final long[][] columns = new long[SIDE][FAR_TICKS];
        final long[][] products = new long[SIDE][SIDE];
        final long[][] placeSums = new long[LONGEST_PERIOD][SIDE];
        final long[] placeCounts = new long[LONGEST_PERIOD];
        final Big[] cells = new Big[SIDE * SIDE];
        final Big[] tops = new Big[MOST_UNKNOWNS];
        final Big[] placeTops = new Big[LONGEST_PERIOD];
        final Big bottom = new Big();
        final Big difference = new Big();
        int places = 1;
        int unknowns = 0;
        int stepsFrom = 0;
        int feastsFrom = 0;

        Parting(Tally tally) {
            this.tally = tally;
            for (int i = 0; i < SIDE * SIDE; i++) {
                cells[i] = new Big();
            }
            for (int i = 0; i < MOST_UNKNOWNS; i++) {
                tops[i] = new Big();
            }
            for (int i = 0; i < LONGEST_PERIOD; i++) {
                placeTops[i] = new Big();
            }
        }

        /**
         * Finds all parts of the row or, if a unit is told, of a row with 1 at that tick and 0
         * elsewhere. False if the row is OPEN.
         */
        boolean find(Row row, int unit) {
            if (!weigh(row, unit)) {
                return false;
            }
            findTops();
            findPlaceTops();
            return true;
        }

        /** As find, but for the bottom and the cost alone. */
        boolean weigh(Row row, int unit) {
            layModel(row);
            layNumbers(row, unit);
            addUp(row);
            long before = 1;
            for (int p = 0; p < places; p++) {
                before *= placeCounts[p];
            }
            takeOutPlaces(before);
            for (int k = 0; k < unknowns && before > 0; k++) {
                long pivot = cell(k, k).toLong();
                if (pivot > 0) {
                    eliminate(k, before);
                }
                before = pivot;
            }
            bottom.setTo(before);
            return before > 0;
        }

        private void layModel(Row row) {
            places = Math.max(1, row.period);
            stepsFrom = row.line ? 1 : 0;
            unknowns = 0;
            if (row.line) {
                layRamp();
            }
            for (int from = 1; from < TICKS; from++) {
                if (row.steps.has(from)) {
                    layStep(from);
                }
            }
            feastsFrom = unknowns;
            for (int f = 0; f < MOST_FEASTS; f++) {
                if (row.hasFeast(f)) {
                    layFeast(row.feasts[f]);
                }
            }
        }

        private void layRamp() {
            for (int tick = 0; tick < FAR_TICKS; tick++) {
                columns[unknowns][tick] = tick;
            }
            unknowns++;
        }

        private void layStep(int from) {
            if (unknowns >= MOST_UNKNOWNS) {
                return;
            }
            for (int tick = 0; tick < FAR_TICKS; tick++) {
                columns[unknowns][tick] = tick >= from ? 1 : 0;
            }
            unknowns++;
        }

        private void layFeast(TickSet ticks) {
            if (unknowns >= MOST_UNKNOWNS) {
                return;
            }
            for (int tick = 0; tick < FAR_TICKS; tick++) {
                columns[unknowns][tick] = ticks.has(tick) ? 1 : 0;
            }
            unknowns++;
        }

        /** The row's numbers stand behind the columns of the unknowns. */
        private void layNumbers(Row row, int unit) {
            for (int tick = 0; tick < TICKS; tick++) {
                if (unit == NONE) {
                    columns[unknowns][tick] = row.numbers[tick];
                } else {
                    columns[unknowns][tick] = tick == unit ? 1 : 0;
                }
            }
        }

        private void addUp(Row row) {
            Arrays.fill(placeCounts, 0L);
            for (int p = 0; p < places; p++) {
                Arrays.fill(placeSums[p], 0L);
            }
            for (int i = 0; i <= unknowns; i++) {
                Arrays.fill(products[i], 0L);
            }
            for (int tick = 0; tick < TICKS; tick++) {
                if (row.counts(tick)) {
                    addTick(tick, placeOf(tick));
                }
            }
        }

        private void addTick(int tick, int place) {
            placeCounts[place]++;
            for (int i = 0; i <= unknowns; i++) {
                long x = columns[i][tick];
                if (x == 0) {
                    continue;
                }
                placeSums[place][i] += x;
                for (int j = i; j <= unknowns; j++) {
                    products[i][j] += x * columns[j][tick];
                }
            }
        }

        private void takeOutPlaces(long placesBottom) {
            for (int i = 0; i <= unknowns; i++) {
                for (int j = i; j <= unknowns; j++) {
                    long left = placesBottom * products[i][j];
                    for (int p = 0; p < places; p++) {
                        if (placeCounts[p] > 0) {
                            left -= placesBottom / placeCounts[p] * placeSums[p][i] * placeSums[p][j];
                        }
                    }
                    cell(i, j).setTo(left);
                }
            }
        }

        private void eliminate(int k, long before) {
            for (int i = k + 1; i <= unknowns; i++) {
                for (int j = i; j <= unknowns; j++) {
                    Big target = cell(i, j);
                    tally.clear();
                    tally.addProduct(cell(k, k), target, false);
                    tally.addProduct(cell(k, i), cell(k, j), true);
                    tally.settle(target);
                    target.divide(before);
                }
            }
        }

        private void findTops() {
            for (int i = unknowns - 1; i >= 0; i--) {
                tally.clear();
                tally.addProduct(bottom, cell(i, unknowns), false);
                for (int j = i + 1; j < unknowns; j++) {
                    tally.addProduct(cell(i, j), tops[j], true);
                }
                tally.settle(tops[i]);
                tops[i].divide(cell(i, i).toLong());
            }
        }

        private void findPlaceTops() {
            for (int p = 0; p < places; p++) {
                tally.clear();
                tally.addTimes(bottom, placeSums[p][unknowns]);
                for (int i = 0; i < unknowns; i++) {
                    tally.addTimes(tops[i], -placeSums[p][i]);
                }
                tally.settle(placeTops[p]);
                placeTops[p].divide(placeCounts[p]);
            }
        }

        private Big cell(int i, int j) {
            return cells[i * SIDE + j];
        }

        // ---- the tops of parts, over the bottom; of those with a level or a season in them,
        // over the bottom times the places

        void level(Big into) {
            tally.clear();
            addPlaceTops(1);
            tally.settle(into);
        }

        void slope(Big into) {
            if (stepsFrom > 0) {
                into.copy(tops[0]);
            } else {
                into.setTo(0);
            }
        }

        void cost(Big into) {
            into.copy(cell(unknowns, unknowns));
        }

        void unknown(int i, Big into) {
            if (i >= 0 && i < unknowns) {
                into.copy(tops[i]);
            }
        }

        void trend(int tick, Big into) {
            tally.clear();
            addPlaceTops(1);
            addUnknowns(0, feastsFrom, tick, places);
            tally.settle(into);
        }

        void seasonOf(int place, Big into) {
            tally.clear();
            if (place >= 0 && place < places) {
                tally.addTimes(placeTops[place], places);
                addPlaceTops(-1);
            }
            tally.settle(into);
        }

        void feastsOn(int tick, Big into) {
            tally.clear();
            addUnknowns(feastsFrom, unknowns, tick, 1);
            tally.settle(into);
        }

        void foretold(int tick, Big into) {
            tally.clear();
            addAllParts(tick, 1);
            tally.settle(into);
        }

        void leftOver(int tick, Big into) {
            tally.clear();
            if (isTick(tick)) {
                tally.addTimes(bottom, columns[unknowns][tick]);
                addAllParts(tick, -1);
            }
            tally.settle(into);
        }

        boolean costsLessThan(Big otherCost, Big otherBottom) {
            tally.clear();
            tally.addProduct(cell(unknowns, unknowns), otherBottom, false);
            tally.addProduct(otherCost, bottom, true);
            tally.settle(difference);
            return difference.below;
        }

        int placeOf(int tick) {
            return tick >= 0 && places > 0 ? tick % places : 0;
        }

        private void addPlaceTops(long times) {
            for (int p = 0; p < places; p++) {
                tally.addTimes(placeTops[p], times);
            }
        }

        private void addUnknowns(int from, int end, int tick, long times) {
            if (!isFarTick(tick)) {
                return;
            }
            for (int i = from; i < end; i++) {
                tally.addTimes(tops[i], columns[i][tick] * times);
            }
        }

        private void addAllParts(int tick, long times) {
            tally.addTimes(placeTops[placeOf(tick)], times);
            addUnknowns(0, unknowns, tick, times);
        }
    }

    /** Finds strangers by rounds. */
    private static final class Sieve {
        final Parting parting;
        final Tally tally;
        final Big[] sizes = new Big[TICKS];
        final TickSet ahead = new TickSet();
        final Big middle = new Big();
        final Big excess = new Big();

        Sieve(Parting parting, Tally tally) {
            this.parting = parting;
            this.tally = tally;
            for (int tick = 0; tick < TICKS; tick++) {
                sizes[tick] = new Big();
            }
        }

        /** False if the row is OPEN in a round. */
        boolean run(Row row, int n, int d) {
            ahead.copy(row.strangers);
            row.strangers.clear();
            boolean more = true;
            for (int round = 0; round < MOST_ROUNDS && more; round++) {
                if (!parting.find(row, NONE)) {
                    row.strangers.copy(ahead);
                    return false;
                }
                measure(row);
                findMiddle(row);
                more = leaveOut(row, n, d);
            }
            return true;
        }

        /** All rests stand over one bottom, so their tops alone tell which is greater. */
        private void measure(Row row) {
            for (int tick = 0; tick < TICKS; tick++) {
                if (row.counts(tick)) {
                    parting.leftOver(tick, sizes[tick]);
                    sizes[tick].below = false;
                }
            }
        }

        private void findMiddle(Row row) {
            int counted = row.countedTicks();
            middle.setTo(0);
            for (int tick = 0; tick < TICKS; tick++) {
                boolean greater = row.counts(tick) && sizes[tick].compareSize(middle) > 0;
                if (greater && 2 * asGreat(row, sizes[tick]) >= counted) {
                    middle.copy(sizes[tick]);
                }
            }
        }

        private int asGreat(Row row, Big size) {
            int many = 0;
            for (int tick = 0; tick < TICKS; tick++) {
                if (row.counts(tick) && sizes[tick].compareSize(size) >= 0) {
                    many++;
                }
            }
            return many;
        }

        /** Answers whether there are more strangers then. */
        private boolean leaveOut(Row row, int n, int d) {
            int before = row.strangers.count;
            for (int tick = 0; tick < TICKS; tick++) {
                if (row.counts(tick) && isAbove(sizes[tick], n, d)) {
                    row.strangers.add(tick);
                }
            }
            return row.strangers.count > before;
        }

        private boolean isAbove(Big size, int n, int d) {
            tally.clear();
            tally.addTimes(middle, n);
            tally.addTimes(size, -d);
            tally.settle(excess);
            return excess.below;
        }
    }

    /** A fraction whose bottom is a product of known divisors. */
    private static final class Fraction {
        static final int MOST_DIVISORS = ROWS + 1;

        final Tally tally;
        final Big top = new Big();
        final Big bottom = new Big();
        final Big scaled = new Big();
        final long[] divisors = new long[MOST_DIVISORS];
        int divisorCount = 0;

        Fraction(Tally tally) {
            this.tally = tally;
        }

        /** From 0. */
        void start() {
            top.setTo(0);
            bottom.setTo(1);
            divisorCount = 0;
        }

        /** Adds so many times another fraction. */
        void add(Big otherTop, Big otherBottom, int times) {
            tally.clear();
            tally.addTimes(otherTop, times);
            tally.settle(scaled);
            tally.clear();
            tally.addProduct(top, otherBottom, false);
            tally.addProduct(scaled, bottom, false);
            tally.settle(top);
            tally.clear();
            tally.addProduct(bottom, otherBottom, false);
            tally.settle(bottom);
            keepDivisor(otherBottom.toLong());
        }

        void divideBy(int divisor) {
            tally.clear();
            tally.addTimes(bottom, divisor);
            tally.settle(bottom);
            keepDivisor(divisor);
        }

        private void keepDivisor(long divisor) {
            if (divisorCount < MOST_DIVISORS) {
                divisors[divisorCount] = divisor;
                divisorCount++;
            }
        }

        /**
         * Takes out what is common, divisor by divisor: the top has nothing in common any more
         * with what is left of a divisor, nor has any later, smaller top.
         */
        void reduce() {
            for (int i = 0; i < divisorCount && i < MOST_DIVISORS; i++) {
                scaled.copy(top);
                long common = commonDivisor(divisors[i], scaled.divide(divisors[i]));
                top.divide(common);
                bottom.divide(common);
            }
        }

        private static long commonDivisor(long a, long b) {
            long greater = a;
            long smaller = b;
            // Two turns halve the numbers, so 63 bits are used up far ahead of the bound.
            for (int turn = 0; turn < 200 && smaller > 0; turn++) {
                long left = greater % smaller;
                greater = smaller;
                smaller = left;
            }
            return greater;
        }
    }

    /** OUT: bytes written from the end of a sheet to its start, as digits come. */
    private static final class Sheet {
        static final int LENGTH = 256;
        static final int MOST_DIGITS = 100;

        final byte[] bytes = new byte[LENGTH];
        int start = LENGTH;

        int length() {
            return LENGTH - start;
        }

        int byteAt(int k) {
            return k >= 0 && k < length() ? bytes[start + k] : NONE;
        }

        /** Uses the fraction up. */
        void write(Fraction fraction) {
            start = LENGTH;
            boolean below = fraction.top.below;
            writeDigits(fraction.bottom);
            writeByte('/');
            writeDigits(fraction.top);
            if (below) {
                writeByte('-');
            }
        }

        private void writeDigits(Big number) {
            for (int i = 0; i < MOST_DIGITS && (i == 0 || !number.isZero()); i++) {
                writeByte((int) ('0' + number.divide(10)));
            }
        }

        private void writeByte(int what) {
            if (start > 0) {
                start--;
                bytes[start] = (byte) what;
            }
        }
    }
}
