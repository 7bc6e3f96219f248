/** "STATUS of a call is the first of these that holds": calls for which two or more hold at once. */
public final class StatusOrderTest extends Checks {
    public static void main(String[] args) {
        noRowAheadOfAll();
        noTickAheadOfAll();
        wrongNumberAheadOfTheRest();
        tooManyAheadOfThereAlready();
        noneSuchAheadOfOpen();
        onInItsOwnOrder();
        restInItsOwnOrder();
        roundsInItsOwnOrder();
        pullInItsOwnOrder();
        rightInItsOrder();
        refusedGivesNoneOrFalse();
        statusAndOutHaveNone();
        end();
    }

    private static void noRowAheadOfAll() {
        for (int row : NO_ROWS) {
            sentence("1 no such ROW, TICK: ahead of all others");
            no(1, x.put(row, 40, 10001));
            no(1, x.fill(row, 40, 41, 10001, MOST));
            no(1, x.gap(row, 0));
            none(1, x.number(row, 0));
            none(1, x.told(row, 7));
            no(1, x.model(row, true, 1));
            no(1, x.step(row, 0));
            no(1, x.unstep(row, 1));
            none(1, x.feast(row));
            no(1, x.on(row, 2, 0));
            no(1, x.strange(row, 0, false));
            none(1, x.part(row, 3));
            none(1, x.stepBy(row, 0));
            none(1, x.feastBy(row, 0));
            none(1, x.season(row, 0));
            none(1, x.at(row, 0, 4));
            none(1, x.rest(row, 0));
            none(1, x.where(row));
            none(1, x.rounds(row, 0, 0));
            none(1, x.rounds(row, 1, 1));
            none(1, x.pull(row, 0, 0));
        }
    }

    private static void noTickAheadOfAll() {
        sentence("1 no such ROW, TICK: ahead of 2, 3, 4, 5, 6 and 7");
        steps(0, 1, 2, 3);
        gives(0, x.feast(0));
        for (int tick = 0; tick < 8; tick++) {
            yes(x.on(0, 0, tick));
        }
        for (int tick : NO_TICKS) {
            no(1, x.put(0, tick, MOST));
            no(1, x.fill(0, tick, 0, MOST, 1));
            no(1, x.gap(0, tick));
            none(1, x.number(0, tick));
            no(1, x.step(0, tick));
            no(1, x.unstep(0, tick));
            no(1, x.on(0, 0, tick));
            no(1, x.on(0, 1, tick));
            no(1, x.strange(0, tick, false));
            none(1, x.rest(0, tick));
            none(1, x.pull(0, tick, 0));
        }
        for (int tick : NO_FAR_TICKS) {
            none(1, x.at(0, tick, 4));
            none(1, x.at(0, tick, 0));
            none(1, x.pull(0, 0, tick));
        }
    }

    private static void wrongNumberAheadOfTheRest() {
        sentence("2 a number that can't be: ahead of 3 and of 6");
        steps(0, 1, 2, 3);
        no(2, x.step(0, 0));
        none(2, x.part(0, 3));
        none(2, x.part(0, -1));
        none(2, x.at(0, 0, 4));
        none(2, x.at(0, 79, -1));
        yes(x.put(1, 0, 1));
        yes(x.model(1, true, 0));
        none(6, x.rounds(1, 1, 1));
        none(2, x.rounds(1, 0, 1));
        none(2, x.rounds(1, 1, 1001));
    }

    private static void tooManyAheadOfThereAlready() {
        sentence("3 one too many: ahead of 4 it is there already");
        steps(0, 1, 20);
        no(4, x.step(0, 1));
        yes(x.step(0, 39));
        for (int tick : new int[] {1, 20, 39}) {
            no(3, x.step(0, tick));
        }
        no(3, x.step(0, 2));
        gives(0, x.feast(0));
        for (int tick = 32; tick < 40; tick++) {
            yes(x.on(0, 0, tick));
        }
        no(3, x.on(0, 0, 32));
        no(3, x.on(0, 0, 39));
        no(3, x.on(0, 0, 0));
    }

    private static void noneSuchAheadOfOpen() {
        sentence("5 there is none such: ahead of 6 the ROW is OPEN");
        none(6, x.part(0, 0));
        none(5, x.stepBy(0, 0));
        none(5, x.feastBy(0, 0));
        none(5, x.season(0, 0));
        yes(x.step(0, 5));
        gives(0, x.feast(0));
        yes(x.model(0, false, 2));
        none(6, x.stepBy(0, 0));
        none(6, x.feastBy(0, 0));
        none(6, x.season(0, 0));
        none(6, x.season(0, 1));
        none(5, x.stepBy(0, 1));
        none(5, x.feastBy(0, 1));
        none(5, x.season(0, 2));
    }

    private static void onInItsOwnOrder() {
        sentence("on: 1; 5: no such FEAST; 3; 4; asked in this order");
        no(1, x.on(0, 0, 40));
        gives(0, x.feast(0));
        yes(x.on(0, 0, 0));
        // The other FEAST is not there, whatever this one has.
        no(5, x.on(0, 1, 0));
        no(4, x.on(0, 0, 0));
        for (int tick = 1; tick < 8; tick++) {
            yes(x.on(0, 0, tick));
        }
        no(5, x.on(0, 1, 0));
        no(5, x.on(0, NONE, 0));
        no(3, x.on(0, 0, 0));
        no(1, x.on(0, 0, -1));
    }

    private static void restInItsOwnOrder() {
        sentence("rest: 1; 7: a GAP alone; 6; asked in this order");
        none(7, x.rest(0, 0));
        none(1, x.rest(0, 40));
        yes(x.put(0, 0, 1));
        strangers(0, 0, 1);
        none(6, x.rest(0, 0));
        none(7, x.rest(0, 1));
        none(1, x.rest(0, -1));
    }

    private static void roundsInItsOwnOrder() {
        sentence("rounds: 1; 2; 8: no TICK has a number; 6; asked in this order");
        none(8, x.rounds(0, 1, 1));
        none(2, x.rounds(0, 1001, 1));
        none(1, x.rounds(4, 1001, 1));
        yes(x.model(0, true, 7));
        none(8, x.rounds(0, 1, 1));
        yes(x.put(0, 0, 1));
        none(6, x.rounds(0, 1, 1));
        none(2, x.rounds(0, 1, 0));
    }

    private static void pullInItsOwnOrder() {
        sentence("pull: 1: t 0 to 79; 7; 6; asked in this order");
        none(7, x.pull(0, 0, 79));
        none(1, x.pull(0, 0, 80));
        none(1, x.pull(0, 40, 79));
        yes(x.put(0, 0, 1));
        yes(x.put(0, 1, 1));
        strangers(0, 1);
        yes(x.model(0, true, 0));
        none(6, x.pull(0, 0, 79));
        none(7, x.pull(0, 1, 79));
        none(7, x.pull(0, 2, 79));
        none(1, x.pull(0, 0, 80));
        none(1, x.pull(0, 1, -1));
    }

    private static void rightInItsOrder() {
        sentence("right: 1: also ROWS told twice, k of none; 6: any");
        none(6, x.right(0, 1, 2, 3, 0, 0));
        none(6, x.right(0, 1, NONE, 3, 0, 0));
        none(1, x.right(0, 0, 2, 3, 0, 0));
        none(1, x.right(0, 1, 2, 3, 3, 0));
        none(1, x.right(0, 1, NONE, 3, 2, 0));
        none(1, x.right(0, 1, 2, 3, 0, 80));
        none(1, x.right(0, 1, 4, 3, 0, 0));
    }

    private static void refusedGivesNoneOrFalse() {
        sentence("With another STATUS than 0 a call gives NONE, or false");
        // Answers that are NONE or 0 with STATUS 0, and the same with another.
        yes(x.put(0, 0, -1));
        gives(-1, x.number(0, 0));
        none(7, x.number(0, 1));
        gives(0, x.told(0, 2));
        none(2, x.told(0, 7));
        gives(0, x.feast(0));
        none(1, x.feast(4));
        gives(0, x.isStrange(0, 0));
        none(1, x.isStrange(0, 40));
        yes(x.plain(0));
        gives(0, x.rounds(0, 1, 1));
        none(8, x.rounds(1, 1, 1));
    }

    private static void statusAndOutHaveNone() {
        sentence("status(), out() have none");
        none(8, x.where(0));
        due("out", x.out(0), NONE);
        statusIs(8);
        statusIs(8);
        none(6, x.part(0, 0));
        for (int k : new int[] {LEAST, 0, MOST}) {
            due("out", x.out(k), NONE);
            statusIs(6);
        }
        yes(x.put(0, 0, 5));
        due("out", x.out(0), NONE);
        statusIs(0);
    }
}
