/** Each sentence of the document's Terms that names a boundary case, from WHERE on. */
public final class SearchesTest extends Checks {
    private static final int[] OUTLIERS = {10, 40, 150, 500, 1900, 7000};

    public static void main(String[] args) {
        whereReaches();
        whereWithoutAStepYet();
        whereTheFirst();
        whereOpenOnesLeftOut();
        whereNoneAtAll();
        whereThreeSteps();
        whereLeavesSteps();
        roundsBeginWithNone();
        middleOfAnEvenMany();
        middleOfAnOddMany();
        middleOfNought();
        aboveTheMiddle();
        greatestAndLeastShares();
        untilNoneDoes();
        fiveRounds();
        openInTheFirstRound();
        openInALaterRound();
        openBehindTheLastRound();
        pullOfOneAndOfAll();
        pullBeyondTheLimit();
        pullOnAnyTick();
        foretoldBehindTheLastTick();
        putRightOfTwo();
        putRightOfThree();
        end();
    }

    // ---- WHERE

    private static void whereReaches() {
        sentence("the TICK (1 to 39)");
        yes(x.fill(0, 0, 40, 7, 0));
        yes(x.put(0, 0, 8));
        gives(1, x.where(0));
        yes(x.put(0, 0, 7));
        yes(x.put(0, 39, 8));
        gives(39, x.where(0));
        yes(x.put(0, 38, 8));
        gives(38, x.where(0));
        yes(x.fill(3, 1, 39, -10000, 0));
        yes(x.put(3, 0, 10000));
        gives(1, x.where(3));
    }

    private static void whereWithoutAStepYet() {
        sentence("without a STEP yet");
        numbers(0, 0, 0, 50, 50, 50, 51);
        gives(2, x.where(0));
        yes(x.step(0, 2));
        gives(5, x.where(0));
        yes(x.step(0, 5));
        gives(1, x.where(0));
        yes(x.unstep(0, 2));
        gives(2, x.where(0));
        // The only TICK that is left between two COUNTED ones has a STEP.
        sentence("without a STEP yet");
        numbers(0, 4, 6);
        gives(1, x.where(0));
        yes(x.step(0, 1));
        none(8, x.where(0));
    }

    private static void whereTheFirst() {
        sentence("of several the first");
        yes(x.fill(0, 0, 40, 3, 0));
        gives(1, x.where(0));
        numbers(1, 9, 0, 9);
        gives(1, x.where(1));
        // All STEPS from 11 to 39 part the numbers alike.
        yes(x.put(2, 10, 4));
        yes(x.put(2, 39, 5));
        gives(11, x.where(2));
        yes(x.put(2, 38, 4));
        yes(x.put(2, 5, 4));
        strangers(2, 38);
        gives(11, x.where(2));
        yes(x.strange(2, 38, false));
        gives(39, x.where(2));
    }

    private static void whereOpenOnesLeftOut() {
        sentence("those with which the ROW would be OPEN are left out");
        yes(x.put(0, 38, 1));
        yes(x.put(0, 39, 1));
        gives(39, x.where(0));
        // A STEP at 1 would cost least, but is all but what the FEAST is.
        numbers(1, 9, 1, 2, 3);
        feastOn(1, 0, 0);
        gives(2, x.where(1));
        // With a LINE a STEP at 1 or 2 leaves enough on both sides; with one number less none does.
        numbers(2, 1, 2, 9);
        yes(x.model(2, true, 0));
        gives(1, x.where(2));
        strangers(2, 1);
        none(8, x.where(2));
        // The PERIOD's places are told apart by TICKS 0 and 1 alone, so a STEP needs 2 or 3.
        numbers(3, 1, 5);
        yes(x.model(3, false, 2));
        none(8, x.where(3));
        yes(x.put(3, 2, 1));
        gives(1, x.where(3));
    }

    private static void whereNoneAtAll() {
        sentence("(none at all: 8");
        none(8, x.where(0));
        yes(x.put(0, 39, 1));
        none(8, x.where(0));
        yes(x.put(0, 0, 1));
        gives(1, x.where(0));
        strangers(0, 0);
        none(8, x.where(0));
        // A ROW that is OPEN stays so with one STEP more.
        yes(x.fill(1, 0, 40, 1, 0));
        gives(0, x.feast(1));
        none(6, x.part(1, 0));
        none(8, x.where(1));
        yes(x.on(1, 0, 0));
        gives(2, x.where(1));
    }

    private static void whereThreeSteps() {
        sentence("also if there are 3 STEPS)");
        yes(x.fill(0, 0, 40, 1, 1));
        steps(0, 10, 20);
        gives(30, x.where(0));
        yes(x.step(0, 30));
        none(8, x.where(0));
        yes(x.unstep(0, 10));
        gives(10, x.where(0));
        steps(1, 1, 2, 3);
        none(8, x.where(1));
    }

    private static void whereLeavesSteps() {
        sentence("at which one more STEP would make COST least");
        yes(x.fill(0, 0, 40, 1, 1));
        steps(0, 13, 39);
        gives(26, x.where(0));
        gives(26, x.where(0));
        gives(2, x.told(0, 3));
        for (int tick = 1; tick < 40; tick++) {
            if (tick != 13 && tick != 39) {
                no(5, x.unstep(0, tick));
            }
        }
        yes(x.unstep(0, 13));
        yes(x.unstep(0, 39));
    }

    // ---- ROUNDS

    private static void roundsBeginWithNone() {
        sentence("STRANGERS are none; then again and again");
        yes(x.fill(0, 0, 4, 7, 0));
        strangers(0, 0, 1, 2, 3, 20, 39);
        none(6, x.part(0, 0));
        gives(0, x.rounds(0, 1, 1));
        gives(0, x.told(0, 2));
        gives(4, x.told(0, 1));
        gives(0, x.isStrange(0, 39));
        // A number counts again from the first round on, though it is a STRANGER now.
        numbers(1, 0, 0, 0, 0, 12, 3);
        strangers(1, 4);
        gives(2, x.rounds(1, 379, 100));
        gives(1, x.isStrange(1, 4));
        gives(1, x.isStrange(1, 5));
        strangers(1, 0);
        gives(0, x.rounds(1, 19, 5));
        gives(0, x.isStrange(1, 4));
    }

    private static final String MIDDLE = "the greatest of those sizes of RESTS (of COUNTED TICKS)"
        + " of which at least half of the COUNTED ones' are as great or greater";

    private static void middleOfAnEvenMany() {
        sentence(MIDDLE + ": an even many");
        // Sizes 7 1 2 4: two of four are 4 or more.
        numbers(0, -7, 1, 2, 4);
        gives(0, x.rounds(0, 7, 4));
        gives(1, x.rounds(0, 174, 100));
        gives(1, x.isStrange(0, 0));
        // Sizes 1 1.
        numbers(1, 0, 2);
        gives(0, x.rounds(1, 1, 1));
        none(6, x.rounds(1, 999, 1000));
        // Two of four are 1, two are 0.
        numbers(2, 5, 0, 5, 2);
        yes(x.model(2, false, 2));
        gives(0, x.rounds(2, 1, 1));
        // All are alike.
        numbers(3, -2, 2, 2, -2);
        gives(0, x.rounds(3, 1, 1));
    }

    private static void middleOfAnOddMany() {
        sentence(MIDDLE + ": an odd many");
        yes(x.put(0, 20, -10000));
        gives(0, x.rounds(0, 1, 1000));
        // Sizes 3 1 2.
        numbers(1, -3, 1, 2);
        gives(0, x.rounds(1, 3, 2));
        gives(1, x.rounds(1, 149, 100));
        gives(1, x.isStrange(1, 0));
        // Sizes 3 1 4 2 0; strangers and gaps don't make them more.
        numbers(2, 13, 9, 6, 12, 10);
        yes(x.put(2, 39, 10));
        yes(x.gap(2, 39));
        gives(0, x.rounds(2, 2, 1));
        gives(1, x.rounds(2, 199, 100));
        gives(1, x.isStrange(2, 2));
        // The size in the middle, 2, at TICK 0, then at 39.
        numbers(2, 12, 9, 6, 13, 10);
        gives(0, x.rounds(2, 2, 1));
        gives(1, x.rounds(2, 199, 100));
        yes(x.gap(2, 0));
        yes(x.put(2, 39, 12));
        gives(0, x.rounds(2, 2, 1));
        gives(1, x.rounds(2, 199, 100));
    }

    private static void middleOfNought() {
        sentence(MIDDLE + ": 0");
        // Rests 0 at the even ticks and at 5, 1 and -1 at 1 and 3.
        numbers(0, 5, 0, 5, 2, 5, 1, 5);
        yes(x.model(0, false, 2));
        gives(2, x.rounds(0, 1000, 1));
        gives(1, x.isStrange(0, 1));
        gives(1, x.isStrange(0, 3));
        gives(0, x.isStrange(0, 5));
        gives(0, x.isStrange(0, 0));
        yes(x.fill(1, 0, 40, -10000, 512));
        yes(x.model(1, true, 0));
        gives(0, x.rounds(1, 1, 1000));
        gives(40, x.told(1, 1));
    }

    private static void aboveTheMiddle() {
        sentence("with a REST of a size above n by d times the MIDDLE");
        // The mean is 5/2; sizes 5/2 four times, 19/2 and 1/2.
        numbers(0, 0, 0, 0, 0, 12, 3);
        gives(0, x.rounds(0, 19, 5));
        gives(0, x.rounds(0, 950, 250));
        gives(2, x.rounds(0, 949, 250));
        gives(0, x.rounds(0, 951, 250));
        // The same below 0.
        numbers(1, 0, 0, 0, 0, -12, -3);
        gives(0, x.rounds(1, 19, 5));
        gives(2, x.rounds(1, 949, 250));
    }

    private static void greatestAndLeastShares() {
        sentence("n by d times the MIDDLE: 1,000 and 1 by 1,000");
        numbers(0, 1000, -1000, 1, -1, 1, -1);
        gives(0, x.rounds(0, 1000, 1));
        gives(2, x.rounds(0, 999, 1));
        gives(0, x.rounds(0, 1000, 1));
        // In each place sizes 1 1000 1001, and the middle of all is 1000.
        numbers(1, 1, 1, 1000, 1000, -1001, -1001);
        yes(x.model(1, false, 2));
        gives(4, x.rounds(1, 1, 1000));
        gives(0, x.isStrange(1, 0));
        gives(0, x.isStrange(1, 1));
        none(6, x.rounds(0, 1, 1000));
    }

    private static void untilNoneDoes() {
        sentence("until none does");
        numbers(0, 0, 0, 0, 0, 12, 3);
        // The first round finds 12 alone, the second 3, the third none.
        gives(2, x.rounds(0, 15, 4));
        numbers(1, 0, 0, 0, 0, 12, 0);
        gives(1, x.rounds(1, 15, 4));
        gives(5, x.told(1, 1));
        tells("0/1", x.part(1, 0));
    }

    /** 30 times 0, and the greatest of the outliers, of which a round with 10 by 1 finds one. */
    private static void outliers(int row, int many) {
        yes(x.fill(row, 0, 30, 0, 0));
        for (int i = 0; i < many; i++) {
            yes(x.put(row, 30 + i, OUTLIERS[OUTLIERS.length - 1 - i]));
        }
    }

    private static void fiveRounds() {
        sentence("or 5 rounds are over");
        for (int many = 0; many <= 6; many++) {
            fresh();
            outliers(0, many);
            gives(Math.min(many, 5), x.rounds(0, 10, 1));
            for (int i = 0; i < many; i++) {
                gives(i < 5 ? 1 : 0, x.isStrange(0, 30 + i));
            }
            gives(Math.max(30, 25 + many), x.told(0, 1));
        }
    }

    private static final String STAY = "If the ROW is OPEN in a round, STRANGERS stay as they were ahead of all (6)";

    private static void strangersAre(int row, int... ticks) {
        gives(ticks.length, x.told(row, 2));
        for (int tick : ticks) {
            gives(1, x.isStrange(row, tick));
        }
    }

    private static void openInTheFirstRound() {
        sentence(STAY + ": the first");
        yes(x.put(0, 5, 1));
        yes(x.model(0, true, 0));
        none(6, x.rounds(0, 1, 1));
        strangersAre(0);
        strangers(0, 0, 5, 39);
        none(6, x.rounds(0, 1, 1));
        strangersAre(0, 0, 5, 39);
        for (int tick = 0; tick < 40; tick++) {
            x.strange(0, tick, true);
        }
        none(6, x.rounds(0, 1000, 1000));
        gives(40, x.told(0, 2));
    }

    private static void openInALaterRound() {
        sentence(STAY + ": the second");
        numbers(0, 0, 2);
        none(6, x.rounds(0, 1, 1000));
        strangersAre(0);
        strangers(0, 1, 39);
        none(6, x.rounds(0, 1, 1000));
        strangersAre(0, 1, 39);
        tells("0/1", x.part(0, 0));

        // A FEAST whose two TICKS go at once, in the fourth round.
        sentence(STAY + ": the fifth");
        outliers(0, 6);
        feastOn(0, 0, 38, 39);
        yes(x.put(0, 38, 100));
        yes(x.put(0, 39, -100));
        strangers(0, 3, 37);
        none(6, x.rounds(0, 10, 1));
        strangersAre(0, 3, 37);
    }

    private static void openBehindTheLastRound() {
        // The FEAST's two TICKS go in the fifth round, and no round comes behind it.
        sentence("until none does, or 5 rounds are over: OPEN then");
        outliers(0, 6);
        feastOn(0, 0, 38, 39);
        yes(x.put(0, 38, 30));
        yes(x.put(0, 39, -30));
        strangers(0, 3, 37);
        gives(7, x.rounds(0, 10, 1));
        strangersAre(0, 30, 31, 32, 33, 34, 38, 39);
        none(6, x.part(0, 0));
    }

    // ---- PULL

    private static void pullOfOneAndOfAll() {
        sentence("PULL of a COUNTED TICK u on a TICK t");
        none(7, x.pull(0, 39, 0));
        yes(x.put(0, 39, 5));
        tells("1/1", x.pull(0, 39, 0));
        tells("1/1", x.pull(0, 39, 79));
        none(7, x.pull(0, 38, 39));
        yes(x.fill(0, 0, 40, 5, 7));
        tells("1/40", x.pull(0, 0, 79));
        yes(x.model(0, true, 0));
        tells("199/820", x.pull(0, 39, 79));
        tells("-79/410", x.pull(0, 0, 79));
        strangers(0, 0);
        none(7, x.pull(0, 0, 79));
        yes(x.gap(0, 39));
        none(7, x.pull(0, 39, 79));
    }

    private static void pullBeyondTheLimit() {
        sentence("if the number at u is 1 greater");
        yes(x.put(0, 0, 10000));
        yes(x.put(0, 1, -10000));
        tells("1/2", x.pull(0, 0, 0));
        tells("1/2", x.pull(0, 1, 0));
        tells("1/2", x.pull(0, 0, 79));
        gives(10000, x.number(0, 0));
        gives(-10000, x.number(0, 1));
        tells("0/1", x.part(0, 0));
    }

    private static void pullOnAnyTick() {
        sentence("how much TREND, SEASON and FEAST at t together are greater");
        numbers(0, 4, 4, 4, 4);
        yes(x.put(0, 10, 4));
        strangers(0, 10);
        for (int t : new int[] {0, 3, 4, 10, 39, 40, 79}) {
            tells("1/4", x.pull(0, 0, t));
        }
        yes(x.model(0, false, 2));
        tells("1/2", x.pull(0, 0, 78));
        tells("0/1", x.pull(0, 0, 79));
        tells("1/2", x.pull(0, 3, 39));
        feastOn(0, 0, 3, 39);
        tells("1/1", x.pull(0, 3, 3));
        tells("1/1", x.pull(0, 3, 39));
        tells("0/1", x.pull(0, 3, 1));
        tells("0/1", x.pull(0, 3, 79));
        tells("0/1", x.pull(0, 1, 3));
        tells("1/1", x.pull(0, 1, 79));
        yes(x.step(0, 2));
        tells("1/1", x.pull(0, 2, 78));
        yes(x.step(0, 4));
        none(6, x.pull(0, 1, 1));
    }

    // ---- FORETOLD and PUT RIGHT

    private static void foretoldBehindTheLastTick() {
        sentence("FORETOLD at a TICK: TREND, SEASON and FEAST there together");
        for (int tick = 0; tick < 40; tick++) {
            yes(x.put(0, tick, 5 * tick + (tick % 2 == 0 ? 100 : -100) + (tick == 39 ? 1000 : 0)));
        }
        yes(x.model(0, true, 2));
        feastOn(0, 0, 39);
        tells("1095/1", x.at(0, 39, 3));
        tells("300/1", x.at(0, 40, 3));
        tells("295/1", x.at(0, 79, 3));
        tells("100/1", x.at(0, 0, 3));
        none(1, x.at(0, 80, 3));
    }

    private static void putRightOfTwo() {
        sentence("PUT RIGHT: of 2 or 3 parts: two");
        yes(x.put(0, 0, -10000));
        yes(x.put(1, 39, 10000));
        yes(x.put(2, 20, 10000));
        // The parts are 0 together, so 10000 is to share.
        tells("-5000/1", x.right(0, 1, NONE, 2, 0, 0));
        tells("15000/1", x.right(0, 1, NONE, 2, 1, 79));
        tells("15000/1", x.right(1, 0, NONE, 2, 0, 79));
        // What is above all parts' together may be below 0: -10000 less 20000.
        tells("-5000/1", x.right(1, 2, NONE, 0, 0, 39));
        tells("-5000/1", x.right(1, 2, NONE, 0, 1, 40));
        // Nothing to share.
        yes(x.put(2, 20, 0));
        tells("-10000/1", x.right(0, 1, NONE, 2, 0, 0));
        tells("10000/1", x.right(0, 1, NONE, 2, 1, 0));
        yes(x.put(2, 20, 1));
        tells("-19999/2", x.right(0, 1, NONE, 2, 0, 0));
        tells("20001/2", x.right(0, 1, NONE, 2, 1, 0));
    }

    private static void putRightOfThree() {
        sentence("PUT RIGHT: of 2 or 3 parts: three");
        yes(x.put(0, 0, 1));
        yes(x.put(1, 1, 2));
        yes(x.put(2, 2, 3));
        yes(x.put(3, 3, 6));
        tells("1/1", x.right(0, 1, 2, 3, 0, 0));
        tells("2/1", x.right(0, 1, 2, 3, 1, 40));
        tells("3/1", x.right(0, 1, 2, 3, 2, 79));
        yes(x.put(3, 3, 7));
        tells("4/3", x.right(0, 1, 2, 3, 0, 79));
        tells("7/3", x.right(0, 1, 2, 3, 1, 79));
        tells("10/3", x.right(0, 1, 2, 3, 2, 79));
        yes(x.put(3, 3, -10000));
        tells("-10003/3", x.right(0, 1, 2, 3, 0, 0));
        tells("-9997/3", x.right(0, 1, 2, 3, 2, 0));
        // Any ROW may be the whole.
        tells("3334/1", x.right(3, 1, 2, 0, 1, 0));
    }
}
