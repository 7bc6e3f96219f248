import java.math.BigInteger;
import java.util.List;
import java.util.function.IntPredicate;
import java.util.function.IntUnaryOperator;

/** Each sentence of the document's Terms that names a boundary case, ahead of WHERE. */
public final class TermsTest extends Checks {
    /** A call by one of its arguments, and what it gives where it is refused. */
    private record Asked(String name, int refused, IntUnaryOperator by) { }

    private static final List<Asked> BY_ROW = List.of(
        truth("put", r -> x.put(r, 0, 0)), truth("fill", r -> x.fill(r, 0, 1, 0, 0)),
        truth("gap", r -> x.gap(r, 0)), number("number", r -> x.number(r, 0)), number("told", r -> x.told(r, 0)),
        truth("model", r -> x.model(r, true, 2)), truth("step", r -> x.step(r, 1)),
        truth("unstep", r -> x.unstep(r, 1)), number("feast", r -> x.feast(r)), truth("on", r -> x.on(r, 0, 0)),
        truth("plain", r -> x.plain(r)), truth("strange", r -> x.strange(r, 0, true)),
        number("isStrange", r -> x.isStrange(r, 0)), number("part", r -> x.part(r, 0)),
        number("stepBy", r -> x.stepBy(r, 0)), number("feastBy", r -> x.feastBy(r, 0)),
        number("season", r -> x.season(r, 0)), number("at", r -> x.at(r, 0, 0)), number("rest", r -> x.rest(r, 0)),
        number("where", r -> x.where(r)), number("rounds", r -> x.rounds(r, 1, 1)),
        number("pull", r -> x.pull(r, 0, 0)));

    private static final List<Asked> BY_TICK = List.of(
        truth("put", t -> x.put(0, t, 0)), truth("fill", t -> x.fill(0, t, 1, 0, 0)), truth("gap", t -> x.gap(0, t)),
        number("number", t -> x.number(0, t)), truth("step", t -> x.step(0, t)), truth("unstep", t -> x.unstep(0, t)),
        truth("on", t -> x.on(0, 0, t)), truth("strange", t -> x.strange(0, t, true)),
        number("isStrange", t -> x.isStrange(0, t)), number("rest", t -> x.rest(0, t)),
        number("pull", t -> x.pull(0, t, 0)));

    private static final List<Asked> BY_FAR_TICK = List.of(
        number("at", t -> x.at(0, t, 0)), number("pull", t -> x.pull(0, 0, t)),
        number("right", t -> x.right(0, 1, 2, 3, 0, t)));

    public static void main(String[] args) {
        rowsAndTicks();
        numbersAndGaps();
        modelAtFirst();
        periods();
        mostSteps();
        mostFeasts();
        mostFeastTicks();
        strangersAndCounted();
        slope();
        places();
        placesTogether();
        stepsInTheTrend();
        seasonWithoutAPeriod();
        feastsThatHaveATick();
        restOfAStranger();
        cost();
        openLevelAndLine();
        openPeriod();
        openSteps();
        openFeasts();
        openFullModel();
        fractions();
        end();
    }

    private static Asked truth(String name, IntPredicate by) {
        return new Asked(name, 0, v -> bit(by.test(v)));
    }

    private static Asked number(String name, IntUnaryOperator by) {
        return new Asked(name, NONE, by);
    }

    // ---- ==== 1.

    private static void rowsAndTicks() {
        sentence("ROWS 0 to 3");
        reaches(BY_ROW, new int[] {0, 1, 2, 3}, NO_ROWS);
        sentence("of each TICK 0 to 39");
        reaches(BY_TICK, new int[] {0, 1, 38, 39}, NO_TICKS);
        sentence("at a TICK (0 to 79)");
        reaches(BY_FAR_TICK, new int[] {0, 39, 40, 79}, NO_FAR_TICKS);
    }

    private static void reaches(List<Asked> calls, int[] there, int[] notThere) {
        for (Asked call : calls) {
            for (int v : there) {
                fresh();
                call.by.applyAsInt(v);
                due(call.name + " by " + v + " has STATUS 1", x.status() == 1, false);
            }
            for (int v : notThere) {
                fresh();
                due(call.name + " by " + v, call.by.applyAsInt(v), call.refused);
                due("status of " + call.name + " by " + v, x.status(), 1);
            }
        }
    }

    private static void numbersAndGaps() {
        sentence("a number (-10,000 to 10,000)");
        for (int v : new int[] {-10000, -9999, -1, 0, 1, 9999, 10000}) {
            yes(x.put(0, 0, v));
            gives(v, x.number(0, 0));
            yes(x.fill(0, 1, 1, v, 0));
            gives(v, x.number(0, 1));
        }
        for (int v : new int[] {LEAST, -10001, 10001, MOST}) {
            no(2, x.put(0, 0, v));
            no(2, x.fill(0, 1, 1, v, 0));
        }
        gives(10000, x.number(0, 0));
        gives(10000, x.number(0, 1));

        sentence("or a GAP (all at first)");
        for (int row = 0; row < 4; row++) {
            fresh();
            for (int tick = 0; tick < 40; tick++) {
                none(7, x.number(row, tick));
            }
            gives(0, x.told(row, 0));
        }
    }

    private static void modelAtFirst() {
        sentence("LINE or not (not at first)");
        for (int row = 0; row < 4; row++) {
            gives(0, x.told(row, 6));
            yes(x.fill(row, 0, 2, 4, 2));
            tells("5/1", x.part(row, 0));
            tells("0/1", x.part(row, 1));
            yes(x.model(row, true, 0));
            gives(1, x.told(row, 6));
            tells("4/1", x.part(row, 0));
            tells("2/1", x.part(row, 1));
        }
    }

    private static void periods() {
        sentence("a PERIOD, 0 (none; at first) or 2 to 7");
        for (int row = 0; row < 4; row++) {
            gives(0, x.told(row, 5));
            none(5, x.season(row, 0));
            for (int period = 2; period <= 7; period++) {
                yes(x.model(row, false, period));
                gives(period, x.told(row, 5));
            }
            for (int bad : new int[] {LEAST, -7, -2, -1, 1, 8, MOST}) {
                no(2, x.model(row, true, bad));
            }
            gives(7, x.told(row, 5));
            gives(0, x.told(row, 6));
            yes(x.model(row, false, 0));
            gives(0, x.told(row, 5));
        }
    }

    private static void mostSteps() {
        sentence("STEPS, at most 3, each at a TICK 1 to 39");
        gives(0, x.told(0, 3));
        no(2, x.step(0, 0));
        yes(x.step(0, 1));
        yes(x.step(0, 39));
        yes(x.step(0, 2));
        gives(3, x.told(0, 3));
        no(3, x.step(0, 38));
        gives(3, x.told(0, 3));
        // The room of one that is gone is free again, and each ROW has its own three.
        yes(x.unstep(0, 39));
        yes(x.step(0, 38));
        no(3, x.step(0, 39));
        steps(3, 1, 2, 39);
        no(3, x.step(3, 3));
    }

    private static void mostFeasts() {
        sentence("FEASTS, at most 2");
        for (int row = 0; row < 4; row++) {
            gives(0, x.told(row, 4));
            gives(0, x.feast(row));
            gives(1, x.feast(row));
            none(3, x.feast(row));
            gives(2, x.told(row, 4));
        }
    }

    private static void mostFeastTicks() {
        sentence("each with at most 8 TICKS (0 to 39)");
        feastOn(0, 0, 0, 39, 1, 38, 2, 37, 3);
        gives(1, x.feast(0));
        yes(x.on(0, 0, 36));
        no(3, x.on(0, 0, 4));
        no(3, x.on(0, 0, 39));
        // The other FEAST has eight of its own, the same ones or others.
        for (int tick : new int[] {39, 0, 10, 11, 12, 13, 14, 15}) {
            yes(x.on(0, 1, tick));
        }
        no(3, x.on(0, 1, 16));
        feastOn(1, 0, 4);
    }

    private static void strangersAndCounted() {
        sentence("STRANGERS (ticks, none at first)");
        for (int row = 0; row < 4; row++) {
            fresh();
            gives(0, x.told(row, 2));
            for (int tick = 0; tick < 40; tick++) {
                gives(0, x.isStrange(row, tick));
                yes(x.strange(row, tick, true));
            }
            gives(40, x.told(row, 2));
        }
        sentence("COUNTED are TICKS with a number that are no STRANGERS");
        gives(0, x.told(0, 1));
        yes(x.fill(0, 0, 40, 5, 0));
        gives(40, x.told(0, 1));
        strangers(0, 0, 39);
        gives(38, x.told(0, 1));
        yes(x.gap(0, 39));
        gives(38, x.told(0, 1));
        yes(x.gap(0, 38));
        gives(37, x.told(0, 1));
        yes(x.put(0, 39, 10000));
        gives(37, x.told(0, 1));
        tells("5/1", x.part(0, 0));
        yes(x.strange(0, 39, false));
        gives(38, x.told(0, 1));
        tells("10185/38", x.part(0, 0));
    }

    // ---- ==== 2. PARTING

    private static void slope() {
        sentence("a SLOPE, if it is a LINE (else 0)");
        yes(x.fill(0, 0, 40, -10000, 512));
        tells("0/1", x.part(0, 1));
        yes(x.model(0, true, 0));
        tells("512/1", x.part(0, 1));
        tells("-10000/1", x.at(0, 0, 0));
        tells("9968/1", x.at(0, 39, 0));
        tells("30448/1", x.at(0, 79, 0));
        yes(x.model(0, false, 0));
        tells("0/1", x.part(0, 1));
        tells("-16/1", x.at(0, 79, 0));
    }

    private static void places() {
        sentence("(TICK by PERIOD, what is left over)");
        for (int period = 2; period <= 7; period++) {
            fresh();
            yes(x.model(0, false, period));
            int sum = 0;
            for (int tick = 0; tick < period; tick++) {
                yes(x.put(0, tick, period * tick * tick));
                sum += tick * tick;
            }
            for (int tick : new int[] {0, 1, period - 1, period, period + 1, 39, 40, 78, 79}) {
                int place = tick % period;
                tells(period * place * place - sum + "/1", x.at(0, tick, 1));
                tells(period * place * place - sum + "/1", x.season(0, place));
            }
            none(5, x.season(0, period));
        }
    }

    private static void placesTogether() {
        sentence("for each place of the PERIOD a number, these together 0");
        for (int period = 2; period <= 7; period++) {
            fresh();
            yes(x.fill(0, 0, period, -10000, 3333));
            yes(x.fill(0, 20, period + 1, 17, -40));
            yes(x.model(0, true, period));
            BigInteger top = BigInteger.ZERO;
            BigInteger bottom = BigInteger.ONE;
            for (int place = 0; place < period; place++) {
                x.season(0, place);
                String[] both = x.text().split("/");
                BigInteger below = new BigInteger(both[1]);
                top = top.multiply(below).add(new BigInteger(both[0]).multiply(bottom));
                bottom = bottom.multiply(below);
            }
            due("all places of " + period + " together", top.signum(), 0);
        }
    }

    private static void stepsInTheTrend() {
        sentence("the numbers of all STEPS at it or ahead");
        yes(x.fill(0, 0, 40, 10, 0));
        yes(x.put(0, 0, 3));
        yes(x.put(0, 39, 1000));
        tells("1383/40", x.at(0, 0, 0));
        tells("1383/40", x.at(0, 79, 0));
        steps(0, 39, 1);
        tells("3/1", x.at(0, 0, 0));
        tells("10/1", x.at(0, 1, 0));
        tells("10/1", x.at(0, 38, 0));
        tells("1000/1", x.at(0, 39, 0));
        tells("1000/1", x.at(0, 40, 0));
        tells("1000/1", x.at(0, 79, 0));
        yes(x.step(0, 20));
        tells("10/1", x.at(0, 19, 0));
        tells("10/1", x.at(0, 20, 0));
    }

    private static void seasonWithoutAPeriod() {
        sentence("SEASON the number of its place (0 without a PERIOD)");
        numbers(0, 1, 5);
        for (int tick : new int[] {0, 1, 39, 79}) {
            tells("0/1", x.at(0, tick, 1));
        }
        tells("3/1", x.at(0, 1, 3));
        yes(x.model(0, false, 2));
        tells("-2/1", x.at(0, 0, 1));
        tells("2/1", x.at(0, 79, 1));
        tells("5/1", x.at(0, 1, 3));
        yes(x.model(0, false, 0));
        tells("0/1", x.at(0, 79, 1));
    }

    private static void feastsThatHaveATick() {
        sentence("FEAST the numbers of all FEASTS that have it");
        yes(x.fill(0, 0, 40, 1, 0));
        yes(x.put(0, 0, 11));
        yes(x.put(0, 39, 101));
        yes(x.put(0, 20, 111));
        tells("0/1", x.at(0, 0, 2));
        feastOn(0, 0, 0, 20);
        feastOn(0, 1, 39, 20);
        tells("0/1", x.part(0, 2));
        tells("10/1", x.at(0, 0, 2));
        tells("100/1", x.at(0, 39, 2));
        tells("110/1", x.at(0, 20, 2));
        tells("0/1", x.at(0, 1, 2));
        tells("0/1", x.at(0, 38, 2));
        // A FEAST's TICKS end at 39: it doesn't come again behind them.
        for (int tick : new int[] {40, 60, 79}) {
            tells("0/1", x.at(0, tick, 2));
            tells("1/1", x.at(0, tick, 3));
        }
        yes(x.plain(0));
        tells("0/1", x.at(0, 20, 2));
    }

    private static void restOfAStranger() {
        sentence("REST, of a TICK with a number, that less all three");
        none(7, x.rest(0, 0));
        yes(x.put(0, 0, 10000));
        yes(x.put(0, 39, -10000));
        tells("10000/1", x.rest(0, 0));
        strangers(0, 39);
        tells("0/1", x.rest(0, 0));
        tells("-20000/1", x.rest(0, 39));
        yes(x.gap(0, 39));
        none(7, x.rest(0, 39));
    }

    private static void cost() {
        sentence("the squares of the RESTS of all COUNTED TICKS together are least; they are COST");
        yes(x.put(0, 39, -10000));
        tells("0/1", x.part(0, 2));
        for (int tick = 0; tick < 40; tick++) {
            yes(x.put(0, tick, tick % 2 == 0 ? 10000 : -10000));
        }
        tells("0/1", x.part(0, 0));
        tells("4000000000/1", x.part(0, 2));
        strangers(0, 39);
        tells("10000/39", x.part(0, 0));
        tells("152000000000/39", x.part(0, 2));
        yes(x.model(0, false, 2));
        tells("0/1", x.part(0, 2));
    }

    // ---- If that holds for more than one choice of numbers, the ROW is OPEN (6).

    private static final String OPEN = "If that holds for more than one choice of numbers, the ROW is OPEN (6)";

    private static void open() {
        for (int what = 0; what < 3; what++) {
            none(6, x.part(0, what));
        }
        none(6, x.at(0, 0, 3));
    }

    private static void closed() {
        for (int what = 0; what < 3; what++) {
            x.part(0, what);
            statusIs(0);
        }
    }

    private static void openLevelAndLine() {
        sentence(OPEN + ": a LEVEL");
        open();
        yes(x.put(0, 39, 0));
        closed();
        strangers(0, 39);
        open();
        yes(x.put(0, 0, 0));
        closed();
        yes(x.gap(0, 0));
        open();

        sentence(OPEN + ": a LINE");
        yes(x.model(0, true, 0));
        open();
        yes(x.put(0, 39, 4));
        open();
        yes(x.put(0, 38, 4));
        closed();
        strangers(0, 38);
        open();
        yes(x.put(0, 0, 4));
        closed();
    }

    private static void openPeriod() {
        sentence(OPEN + ": a PERIOD");
        for (int period = 2; period <= 7; period++) {
            fresh();
            yes(x.model(0, false, period));
            yes(x.fill(0, 1, period - 1, 3, 5));
            open();
            yes(x.put(0, 1 + period, 8));
            open();
            yes(x.put(0, 5 * period, 8));
            closed();
            strangers(0, 5 * period);
            open();
        }
        sentence(OPEN + ": a PERIOD and a LINE");
        yes(x.model(0, true, 7));
        yes(x.fill(0, 0, 7, 3, 5));
        open();
        yes(x.put(0, 35, 0));
        closed();
    }

    private static void openSteps() {
        sentence(OPEN + ": a STEP with all COUNTED TICKS on one side");
        yes(x.put(0, 5, 1));
        yes(x.put(0, 6, 2));
        for (int tick : new int[] {1, 5, 7, 39}) {
            yes(x.step(0, tick));
            open();
            none(6, x.stepBy(0, 0));
            yes(x.unstep(0, tick));
        }
        yes(x.step(0, 6));
        closed();
        yes(x.model(0, true, 0));
        open();
        yes(x.put(0, 0, 2));
        closed();

        sentence(OPEN + ": STEPS without a COUNTED TICK between");
        yes(x.put(0, 0, 1));
        yes(x.put(0, 39, 2));
        steps(0, 10, 20);
        open();
        yes(x.put(0, 9, 1));
        yes(x.put(0, 20, 2));
        open();
        yes(x.put(0, 19, 2));
        closed();
        strangers(0, 19);
        open();
        yes(x.put(0, 10, 2));
        closed();
    }

    private static void openFeasts() {
        sentence(OPEN + ": a FEAST without a COUNTED TICK");
        yes(x.fill(0, 0, 8, 5, 3));
        gives(0, x.feast(0));
        open();
        yes(x.on(0, 0, 8));
        open();
        yes(x.on(0, 0, 7));
        closed();
        strangers(0, 7);
        open();

        sentence(OPEN + ": a FEAST of all COUNTED TICKS");
        yes(x.fill(0, 0, 8, 5, 3));
        feastOn(0, 0, 0, 1, 2, 3, 4, 5, 6, 7);
        open();
        yes(x.put(0, 8, 1));
        closed();
        yes(x.gap(0, 8));
        open();

        sentence(OPEN + ": FEASTS that are alike, or a STEP, or a place of the PERIOD");
        yes(x.fill(0, 32, 8, 5, 3));
        feastOn(0, 0, 34, 39);
        feastOn(0, 1, 39, 34);
        open();
        yes(x.on(0, 1, 35));
        closed();
        // Together they are all TICKS from 34 to 39, as a STEP there would be.
        yes(x.plain(0));
        feastOn(0, 0, 34, 36, 38);
        feastOn(0, 1, 35, 37, 39);
        closed();
        yes(x.step(0, 34));
        open();
        yes(x.unstep(0, 34));
        yes(x.step(0, 33));
        closed();
        yes(x.plain(0));
        feastOn(0, 0, 32, 39);
        closed();
        yes(x.model(0, false, 7));
        open();
        yes(x.put(0, 25, 9));
        closed();
    }

    private static void openFullModel() {
        sentence(OPEN + ": LINE, PERIOD 7, 3 STEPS, 2 FEASTS");
        yes(x.model(0, true, 7));
        steps(0, 3, 5, 11);
        feastOn(0, 0, 0, 14, 20, 21, 30, 31, 33, 39);
        feastOn(0, 1, 1, 13, 20, 22, 28, 29, 34, 38);
        // Thirteen unknowns ask for as many COUNTED TICKS, and such as tell them apart.
        yes(x.fill(0, 0, 12, 7, 11));
        open();
        yes(x.put(0, 12, -4000));
        closed();
        tells("0/1", x.part(0, 2));
        for (int tick = 0; tick < 13; tick += 4) {
            yes(x.strange(0, tick, true));
            open();
            yes(x.strange(0, tick, false));
        }
        yes(x.fill(0, 0, 40, 10000, -512));
        closed();
        tells("-512/1", x.part(0, 1));
    }

    // ---- FRACTIONS are told by OUT

    private static void fractions() {
        sentence("a top (in tens, - ahead of it below 0), / , a bottom above 0, without a common divisor");
        yes(x.put(0, 0, 0));
        tells("0/1", x.part(0, 0));
        yes(x.put(0, 0, -10000));
        tells("-10000/1", x.part(0, 0));
        numbers(0, -1, 0);
        tells("-1/2", x.part(0, 0));
        tells("-1/2", x.rest(0, 0));
        tells("1/2", x.rest(0, 1));
        numbers(0, 1, 2, 4, 5);
        tells("3/1", x.part(0, 0));
        numbers(0, 1, 2, 4, 3);
        tells("5/2", x.part(0, 0));
        numbers(0, -1, 1, -10000, 10000);
        tells("0/1", x.part(0, 0));
        yes(x.model(0, true, 0));
        // The normal equations' bottom is 20 here, and tops are below 0.
        numbers(0, 3, 2, 1, 0);
        tells("-1/1", x.part(0, 1));
        tells("-76/1", x.at(0, 79, 3));
        numbers(0, 0, 0, 0, 1);
        tells("3/10", x.part(0, 1));
        tells("-1/5", x.part(0, 0));
    }
}
