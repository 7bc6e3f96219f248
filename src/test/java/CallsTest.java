/** Each sentence of the sections 'Promise 1' to 'Promise 26' that names a boundary case. */
public final class CallsTest extends Checks {
    public static void main(String[] args) {
        newObject();
        twoObjects();
        statusOfTheLatest();
        outAndItsEnds();
        putAgain();
        fillMany();
        fillBehind39();
        fillNumbers();
        fillFarNumbers();
        gapThere();
        numberOfAGapAlone();
        toldEmptyAndFull();
        toldWhat();
        modelEdges();
        stepEdges();
        unstepEdges();
        feastEdges();
        onEdges();
        onInThisOrder();
        plainEdges();
        strangeEdges();
        isStrangeEdges();
        partEdges();
        stepByTicks();
        stepByEdges();
        feastByEdges();
        seasonEdges();
        atEdges();
        restEdges();
        whereEdges();
        roundsShares();
        roundsWithoutANumber();
        pullEdges();
        rightTwice();
        rightOfNone();
        rightOpen();
        end();
    }

    // ---- Promise 1 to 3

    private static void newObject() {
        sentence("All TICKS have GAPS, MODELS as at first; OUT is empty; STATUS 0.");
        statusIs(0);
        outIs("");
        for (int row = 0; row < 4; row++) {
            for (int what = 0; what <= 6; what++) {
                gives(0, x.told(row, what));
            }
            no(5, x.unstep(row, 39));
            none(6, x.part(row, 0));
            none(5, x.stepBy(row, 0));
            none(5, x.feastBy(row, 0));
            none(5, x.season(row, 0));
            none(7, x.rest(row, 0));
            none(8, x.where(row));
            none(8, x.rounds(row, 1, 1));
        }
        outIs("");
    }

    private static void twoObjects() {
        sentence("A new object");
        CountedRows other = x;
        other.fill(0, 0, 40, 3, 3);
        other.model(0, true, 7);
        other.step(0, 5);
        other.feast(0);
        other.strange(0, 1, true);
        other.part(0, 9);
        fresh();
        statusIs(0);
        for (int what = 0; what <= 6; what++) {
            gives(0, x.told(0, what));
        }
        due("status of the other", other.told(0, 0), 40);
        yes(x.put(0, 0, 1));
        due("the other's number", other.number(0, 0), 3);
    }

    private static void statusOfTheLatest() {
        sentence("STATUS of the latest call that has one.");
        none(1, x.told(LEAST, 0));
        statusIs(1);
        due("out has none", x.out(0), NONE);
        due("out has none", x.out(MOST), NONE);
        statusIs(1);
        no(2, x.put(0, 0, MOST));
        due("out has none", x.out(-1), NONE);
        statusIs(2);
        yes(x.put(0, 0, 1));
        none(7, x.number(0, 1));
        tells("1/1", x.part(0, 0));
        due("out", x.out(0), (int) '1');
        due("out", x.out(9), NONE);
        statusIs(0);
        no(4, x.strange(0, 0, false));
        due("out", x.out(0), (int) '1');
        statusIs(4);
    }

    private static void outAndItsEnds() {
        sentence("Byte k of OUT; NONE if there is none such.");
        for (int k : new int[] {LEAST, -1, 0, 1, MOST}) {
            due("an empty OUT by " + k, x.out(k), NONE);
        }
        yes(x.put(0, 0, -10000));
        tells("-10000/1", x.part(0, 0));
        due("the first byte", x.out(0), (int) '-');
        due("the last byte", x.out(7), (int) '1');
        for (int k : new int[] {LEAST, -256, -1, 8, 9, 255, 256, MOST}) {
            due("OUT by " + k, x.out(k), NONE);
        }
        tells("0/1", x.part(0, 1));
        due("a shorter OUT ends earlier", x.out(3), NONE);
        due("its first byte", x.out(0), (int) '0');
        // Calls that are done and don't tell leave OUT.
        yes(x.put(0, 1, 4));
        yes(x.model(0, true, 0));
        gives(2, x.told(0, 0));
        none(8, x.where(0));
        yes(x.model(0, false, 0));
        gives(1, x.where(0));
        gives(0, x.rounds(0, 1, 1));
        outIs("0/1");
    }

    // ---- Promise 4 to 8

    private static void putAgain() {
        sentence("The number of a TICK (1, 2).");
        yes(x.put(3, 39, 10000));
        yes(x.put(3, 39, -10000));
        gives(-10000, x.number(3, 39));
        gives(1, x.told(3, 0));
        none(7, x.number(3, 38));
        none(7, x.number(2, 39));
        no(2, x.put(3, 39, 10001));
        no(2, x.put(3, 38, -10001));
        no(1, x.put(4, 39, 0));
        no(1, x.put(3, 40, 0));
        gives(-10000, x.number(3, 39));
        none(7, x.number(3, 38));
        // A STRANGER gets a number and stays a STRANGER.
        strangers(0, 0);
        yes(x.put(0, 0, 1));
        gives(1, x.isStrange(0, 0));
        gives(0, x.told(0, 1));
    }

    private static void fillMany() {
        sentence("come to so many (1 to 40) TICKS from one on");
        yes(x.fill(0, 0, 1, 8, 3));
        gives(1, x.told(0, 0));
        yes(x.fill(0, 0, 40, 8, 3));
        gives(40, x.told(0, 0));
        gives(8, x.number(0, 0));
        gives(11, x.number(0, 1));
        gives(125, x.number(0, 39));
        for (int many : new int[] {LEAST, -1, 0, 41, MOST}) {
            no(2, x.fill(1, 0, many, 8, 3));
            no(2, x.fill(1, 39, many, 8, 3));
        }
        gives(0, x.told(1, 0));
        // Only those from the one on, and no more.
        yes(x.fill(2, 7, 2, 1, 1));
        none(7, x.number(2, 6));
        gives(1, x.number(2, 7));
        gives(2, x.number(2, 8));
        none(7, x.number(2, 9));
        yes(x.fill(2, 8, 1, 9, 1));
        gives(1, x.number(2, 7));
        gives(9, x.number(2, 8));
    }

    private static void fillBehind39() {
        sentence("2: also a TICK behind 39");
        yes(x.fill(0, 39, 1, 5, 1));
        no(2, x.fill(0, 39, 2, 6, 1));
        gives(5, x.number(0, 39));
        no(2, x.fill(1, 1, 40, 6, 1));
        no(2, x.fill(1, 38, 3, 6, 1));
        no(2, x.fill(1, 39, 40, 6, 1));
        no(2, x.fill(1, 39, MOST, 6, 0));
        gives(0, x.told(1, 0));
        yes(x.fill(1, 38, 2, 6, 1));
        yes(x.fill(1, 1, 39, 6, 1));
        gives(39, x.told(1, 0));
        // The first TICK itself is none.
        no(1, x.fill(2, 40, 1, 6, 1));
        no(1, x.fill(2, MOST, MOST, 6, 1));
        no(1, x.fill(2, -1, 2, 6, 1));
    }

    private static void fillNumbers() {
        sentence("2: also .. a number that can't be");
        yes(x.fill(0, 0, 3, 9998, 1));
        gives(10000, x.number(0, 2));
        no(2, x.fill(0, 0, 4, 9998, 1));
        no(2, x.fill(0, 0, 3, 9999, 1));
        gives(9998, x.number(0, 0));
        none(7, x.number(0, 3));
        yes(x.fill(0, 0, 3, -9998, -1));
        gives(-10000, x.number(0, 2));
        no(2, x.fill(0, 0, 3, -9999, -1));
        gives(-9998, x.number(0, 0));
        // The first of them can't be, the last can.
        no(2, x.fill(0, 0, 2, 10001, -1));
        no(2, x.fill(0, 0, 2, -10001, 1));
        no(2, x.fill(0, 0, 3, MOST, LEAST));
        yes(x.fill(1, 0, 40, 10000, -512));
        gives(-9968, x.number(1, 39));
        no(2, x.fill(1, 0, 40, 10000, -513));
        yes(x.fill(1, 0, 2, 10000, -20000));
        gives(-10000, x.number(1, 1));
        no(2, x.fill(1, 0, 2, 10000, -20001));
        gives(-10000, x.number(1, 1));
    }

    private static void fillFarNumbers() {
        sentence("Numbers v, v + by, v + 2 by ..");
        // Of one TICK no number but v comes.
        yes(x.fill(0, 5, 1, 7, MOST));
        yes(x.fill(0, 6, 1, -7, LEAST));
        gives(7, x.number(0, 5));
        gives(-7, x.number(0, 6));
        gives(2, x.told(0, 0));
        no(2, x.fill(0, 5, 2, -10000, MOST));
        no(2, x.fill(0, 5, 2, 10000, LEAST));
        // These come round to 0 in 32 bits: at the last TICK, and at one between.
        no(2, x.fill(1, 0, 3, 0, LEAST));
        no(2, x.fill(1, 0, 5, 0, 1 << 30));
        no(2, x.fill(1, 0, 6, 0, 1 << 30));
        no(2, x.fill(1, 0, 33, 0, 1 << 27));
        no(2, x.fill(1, 0, 40, -1, MOST));
        gives(0, x.told(1, 0));
        yes(x.fill(1, 0, 40, -10000, 0));
        gives(-10000, x.number(1, 39));
    }

    private static void gapThere() {
        sentence("A TICK has a GAP (1, 5: it has one).");
        no(5, x.gap(0, 0));
        no(5, x.gap(3, 39));
        yes(x.fill(0, 0, 40, 6, 0));
        yes(x.gap(0, 0));
        no(5, x.gap(0, 0));
        yes(x.gap(0, 39));
        gives(38, x.told(0, 0));
        none(7, x.number(0, 39));
        gives(6, x.number(0, 38));
        no(1, x.gap(0, 40));
        no(1, x.gap(0, -1));
        no(1, x.gap(4, 1));
        strangers(0, 1);
        yes(x.gap(0, 1));
        gives(1, x.isStrange(0, 1));
        no(5, x.gap(0, 1));
        yes(x.put(0, 0, 0));
        gives(0, x.number(0, 0));
        yes(x.gap(0, 0));
    }

    private static void numberOfAGapAlone() {
        sentence("The number of a TICK (1, 7: a GAP alone). STATUS tells NONE from -1.");
        none(7, x.number(0, 0));
        yes(x.put(0, 0, -1));
        gives(-1, x.number(0, 0));
        strangers(0, 0, 39);
        gives(-1, x.number(0, 0));
        none(7, x.number(0, 39));
        yes(x.gap(0, 0));
        none(7, x.number(0, 0));
        none(1, x.number(0, 40));
        none(1, x.number(4, 0));
    }

    private static void toldEmptyAndFull() {
        sentence("TICKS with numbers, 1: COUNTED ones, 2: STRANGERS, 3: STEPS, 4: FEASTS, 5: PERIOD, 6: LINE (1, 0)");
        int[] atFirst = {0, 0, 0, 0, 0, 0, 0};
        toldAre(3, atFirst);
        yes(x.fill(3, 0, 40, 1, 1));
        toldAre(3, 40, 40, 0, 0, 0, 0, 0);
        for (int tick = 0; tick < 40; tick++) {
            yes(x.strange(3, tick, true));
        }
        toldAre(3, 40, 0, 40, 0, 0, 0, 0);
        steps(3, 1, 20, 39);
        feastOn(3, 0, 0, 1, 2, 3, 4, 5, 6, 7);
        feastOn(3, 1);
        yes(x.model(3, true, 7));
        toldAre(3, 40, 0, 40, 3, 2, 7, 1);
        yes(x.gap(3, 0));
        yes(x.strange(3, 39, false));
        toldAre(3, 39, 1, 39, 3, 2, 7, 1);
        toldAre(2, atFirst);
        yes(x.model(3, false, 2));
        yes(x.plain(3));
        toldAre(3, 39, 1, 39, 0, 0, 2, 0);
    }

    private static void toldAre(int row, int... want) {
        for (int what = 0; what < want.length; what++) {
            gives(want[what], x.told(row, what));
        }
    }

    private static void toldWhat() {
        sentence("What 0 .. 6");
        for (int what : new int[] {LEAST, -1, 7, 8, MOST}) {
            none(2, x.told(0, what));
            none(2, x.told(3, what));
        }
        gives(0, x.told(0, 0));
        gives(0, x.told(3, 6));
    }

    // ---- Promise 9 to 16

    private static void modelEdges() {
        sentence("LINE and PERIOD (1, 2).");
        yes(x.model(0, true, 7));
        yes(x.model(0, true, 7));
        no(2, x.model(0, false, 8));
        no(2, x.model(0, false, 1));
        no(2, x.model(0, false, -1));
        no(1, x.model(4, false, 0));
        toldAre(0, 0, 0, 0, 0, 0, 7, 1);
        yes(x.model(0, false, 2));
        toldAre(0, 0, 0, 0, 0, 0, 2, 0);
        yes(x.model(0, true, 0));
        toldAre(0, 0, 0, 0, 0, 0, 0, 1);
        // STEPS, FEASTS, STRANGERS and numbers stay.
        steps(0, 3);
        feastOn(0, 0, 4);
        strangers(0, 5);
        yes(x.put(0, 6, 6));
        yes(x.model(0, false, 3));
        toldAre(0, 1, 1, 1, 1, 1, 3, 0);
        toldAre(1, 0, 0, 0, 0, 0, 0, 0);
    }

    private static void stepEdges() {
        sentence("A STEP more (1; 2: TICK 0; 3; 4).");
        no(2, x.step(0, 0));
        no(1, x.step(0, 40));
        no(1, x.step(0, -1));
        gives(0, x.told(0, 3));
        yes(x.step(0, 1));
        no(4, x.step(0, 1));
        yes(x.step(0, 39));
        no(4, x.step(0, 39));
        no(4, x.step(0, 1));
        gives(2, x.told(0, 3));
        yes(x.step(0, 38));
        no(3, x.step(0, 37));
        gives(3, x.told(0, 3));
        // Each ROW has its own: the same TICK is not there already.
        yes(x.step(1, 1));
    }

    private static void unstepEdges() {
        sentence("A STEP is gone (1, 5).");
        for (int tick : new int[] {0, 1, 39}) {
            no(5, x.unstep(0, tick));
        }
        steps(0, 1, 20, 39);
        no(5, x.unstep(0, 0));
        no(5, x.unstep(0, 2));
        no(5, x.unstep(0, 38));
        no(5, x.unstep(1, 1));
        no(1, x.unstep(0, 40));
        no(1, x.unstep(0, LEAST));
        gives(3, x.told(0, 3));
        yes(x.unstep(0, 39));
        no(5, x.unstep(0, 39));
        yes(x.unstep(0, 1));
        yes(x.unstep(0, 20));
        no(5, x.unstep(0, 20));
        gives(0, x.told(0, 3));
    }

    private static void feastEdges() {
        sentence("A FEAST more, without TICKS: its number (1, 3).");
        gives(0, x.feast(0));
        gives(1, x.feast(0));
        none(3, x.feast(0));
        none(3, x.feast(0));
        gives(2, x.told(0, 4));
        gives(0, x.feast(3));
        gives(1, x.told(3, 4));
        none(1, x.feast(4));
        none(1, x.feast(-1));
        // Those behind plain begin at 0 again, and without the TICKS of those ahead of it.
        for (int tick = 0; tick < 8; tick++) {
            yes(x.on(0, 1, tick));
        }
        yes(x.plain(0));
        gives(0, x.feast(0));
        gives(1, x.feast(0));
        for (int tick = 0; tick < 8; tick++) {
            yes(x.on(0, 1, tick));
        }
    }

    private static void onEdges() {
        sentence("A FEAST has a TICK more (1; 5: no such FEAST; 3; 4");
        for (int feast : new int[] {LEAST, -1, 0, 1, 2, MOST}) {
            no(5, x.on(0, feast, 0));
        }
        gives(0, x.feast(0));
        for (int feast : new int[] {LEAST, -1, 1, 2, MOST}) {
            no(5, x.on(0, feast, 0));
        }
        gives(1, x.feast(0));
        no(5, x.on(0, 2, 0));
        no(5, x.on(0, -1, 0));
        yes(x.on(0, 1, 0));
        yes(x.on(0, 1, 39));
        no(4, x.on(0, 1, 0));
        no(4, x.on(0, 1, 39));
        yes(x.on(0, 0, 39));
        no(1, x.on(0, 0, 40));
        no(1, x.on(0, 0, -1));
    }

    private static void onInThisOrder() {
        sentence("(1; 5: no such FEAST; 3; 4; asked in this order)");
        no(1, x.on(0, 0, 40));
        no(1, x.on(0, 5, -1));
        no(1, x.on(4, 5, 0));
        gives(0, x.feast(0));
        for (int tick = 0; tick < 7; tick++) {
            yes(x.on(0, 0, tick));
        }
        no(4, x.on(0, 0, 0));
        yes(x.on(0, 0, 39));
        no(3, x.on(0, 0, 39));
        no(3, x.on(0, 0, 8));
        no(5, x.on(0, 1, 39));
        no(1, x.on(0, 0, 40));
    }

    private static void plainEdges() {
        sentence("All STEPS and FEASTS are gone (1).");
        yes(x.plain(0));
        gives(0, x.told(0, 3));
        yes(x.fill(0, 0, 40, 4, 0));
        steps(0, 1, 20, 39);
        feastOn(0, 0, 0, 1, 2, 3, 4, 5, 6, 7);
        feastOn(0, 1, 39);
        yes(x.model(0, true, 7));
        strangers(0, 1);
        steps(1, 5);
        gives(0, x.feast(1));
        yes(x.plain(0));
        toldAre(0, 40, 39, 1, 0, 0, 7, 1);
        toldAre(1, 0, 0, 0, 1, 1, 0, 0);
        for (int tick : new int[] {1, 20, 39}) {
            no(5, x.unstep(0, tick));
        }
        no(5, x.on(0, 0, 8));
        none(5, x.stepBy(0, 0));
        none(5, x.feastBy(0, 0));
        tells("0/1", x.at(0, 39, 2));
        steps(0, 1, 20, 39);
        no(1, x.plain(4));
        no(1, x.plain(-1));
        gives(3, x.told(0, 3));
    }

    private static void strangeEdges() {
        sentence("A TICK is a STRANGER, or no more (1; 4: it is so already).");
        for (int tick : new int[] {0, 39}) {
            no(4, x.strange(0, tick, false));
            yes(x.strange(0, tick, true));
            no(4, x.strange(0, tick, true));
            gives(1, x.isStrange(0, tick));
            yes(x.strange(0, tick, false));
            no(4, x.strange(0, tick, false));
            gives(0, x.isStrange(0, tick));
        }
        gives(0, x.told(0, 2));
        // Those that ROUNDS found are so already, too.
        numbers(1, 0, 0, 0, 0, 12);
        gives(1, x.rounds(1, 2, 1));
        no(4, x.strange(1, 4, true));
        yes(x.strange(1, 4, false));
        no(1, x.strange(0, 40, true));
        no(1, x.strange(0, -1, true));
        gives(0, x.told(0, 2));
    }

    private static void isStrangeEdges() {
        sentence("Whether a TICK is a STRANGER: 1 or 0 (1).");
        strangers(3, 0, 39);
        gives(1, x.isStrange(3, 0));
        gives(0, x.isStrange(3, 1));
        gives(0, x.isStrange(3, 38));
        gives(1, x.isStrange(3, 39));
        gives(0, x.isStrange(2, 0));
        none(1, x.isStrange(3, 40));
        none(1, x.isStrange(3, -1));
        none(1, x.isStrange(4, 39));
    }

    // ---- Promise 17 to 22

    private static void partEdges() {
        sentence("OUT is, what 0: LEVEL, 1: SLOPE, 2: COST: how many bytes (1, 2, 6).");
        numbers(0, 0, 1, 5);
        yes(x.model(0, true, 0));
        tells("-1/2", x.part(0, 0));
        tells("5/2", x.part(0, 1));
        tells("3/2", x.part(0, 2));
        for (int what : new int[] {LEAST, -1, 3, MOST}) {
            none(2, x.part(0, what));
            none(2, x.part(1, what));
            none(1, x.part(4, what));
        }
        none(6, x.part(1, 0));
        outIs("3/2");
    }

    private static void stepByTicks() {
        sentence("the number of the k-th STEP, by TICKS");
        numbers(0, 0, 1, 11, 111);
        yes(x.put(0, 39, 1111));
        steps(0, 39, 1, 3);
        tells("6/1", x.stepBy(0, 0));
        tells("105/1", x.stepBy(0, 1));
        tells("1000/1", x.stepBy(0, 2));
        yes(x.unstep(0, 1));
        tells("107/1", x.stepBy(0, 0));
        tells("1000/1", x.stepBy(0, 1));
        yes(x.step(0, 2));
        tells("21/2", x.stepBy(0, 0));
        tells("100/1", x.stepBy(0, 1));
        tells("1000/1", x.stepBy(0, 2));
        // A LINE, a PERIOD and a FEAST don't move the count.
        yes(x.fill(0, 0, 40, 0, 0));
        yes(x.fill(0, 2, 38, 100, 0));
        yes(x.fill(0, 3, 37, 300, 0));
        yes(x.put(0, 39, 10000));
        yes(x.model(0, true, 7));
        feastOn(0, 0, 10);
        tells("100/1", x.stepBy(0, 0));
        tells("200/1", x.stepBy(0, 1));
        tells("9700/1", x.stepBy(0, 2));
    }

    private static void stepByEdges() {
        sentence("OUT is the number of the k-th STEP (1; 5; 6).");
        for (int k : new int[] {LEAST, -1, 0, 1, 3, MOST}) {
            none(5, x.stepBy(0, k));
        }
        numbers(0, 1, 2);
        yes(x.step(0, 1));
        tells("1/1", x.stepBy(0, 0));
        none(5, x.stepBy(0, 1));
        none(5, x.stepBy(0, -1));
        steps(0, 2, 3);
        none(6, x.stepBy(0, 2));
        none(5, x.stepBy(0, 3));
        none(1, x.stepBy(4, 0));
    }

    private static void feastByEdges() {
        sentence("OUT is the number of a FEAST (1; 5; 6).");
        for (int feast : new int[] {LEAST, -1, 0, 1, 2, MOST}) {
            none(5, x.feastBy(0, feast));
        }
        numbers(0, 1, 4, 1, -6);
        feastOn(0, 0, 1);
        tells("16/3", x.feastBy(0, 0));
        none(5, x.feastBy(0, 1));
        gives(1, x.feast(0));
        none(6, x.feastBy(0, 0));
        none(6, x.feastBy(0, 1));
        for (int feast : new int[] {LEAST, -1, 2, MOST}) {
            none(5, x.feastBy(0, feast));
        }
        yes(x.on(0, 1, 3));
        tells("3/1", x.feastBy(0, 0));
        tells("-7/1", x.feastBy(0, 1));
        // A STEP and a LINE don't move the count.
        yes(x.put(0, 4, 1));
        yes(x.put(0, 5, 1));
        yes(x.model(0, true, 0));
        yes(x.step(0, 5));
        tells("3/1", x.feastBy(0, 0));
        tells("-7/1", x.feastBy(0, 1));
        none(1, x.feastBy(4, 0));
        none(1, x.feastBy(-1, 0));
        yes(x.plain(0));
        none(5, x.feastBy(0, 0));
    }

    private static void seasonEdges() {
        sentence("OUT is the number of a place of the PERIOD (1; 5: no such place; 6).");
        yes(x.fill(0, 1, 39, 0, 0));
        yes(x.put(0, 0, 210));
        for (int place : new int[] {LEAST, -1, 0, 1, 7, MOST}) {
            none(5, x.season(0, place));
        }
        // The mean of place 0 is 210 by as many TICKS as it has, that of the others 0.
        String[] first = {"21/4", "10/1", "63/4", "21/1", "25/1", "30/1"};
        String[] others = {"-21/4", "-5/1", "-21/4", "-21/4", "-5/1", "-5/1"};
        for (int period = 2; period <= 7; period++) {
            yes(x.model(0, false, period));
            tells(first[period - 2], x.season(0, 0));
            tells(others[period - 2], x.season(0, period - 1));
            none(5, x.season(0, period));
            none(5, x.season(0, -1));
            none(5, x.season(0, MOST));
            none(5, x.season(0, LEAST));
        }
        yes(x.model(1, false, 7));
        none(6, x.season(1, 0));
        none(6, x.season(1, 6));
        none(5, x.season(1, 7));
        none(1, x.season(4, 0));
        none(1, x.season(-1, 0));
    }

    private static void atEdges() {
        sentence("what 0: TREND, 1: SEASON, 2: FEAST at a TICK (0 to 79), 3: all three together (1: TICK, too; 2; 6)");
        // 10, 5 a TICK, 3 and -3 by PERIOD, 100 on the FEAST.
        for (int tick = 0; tick < 8; tick++) {
            yes(x.put(0, tick, 10 + 5 * tick + (tick % 2 == 0 ? 3 : -3) + (tick == 0 ? 100 : 0)));
        }
        yes(x.model(0, true, 2));
        feastOn(0, 0, 0, 39);
        String[][] want = {{"10/1", "3/1", "100/1", "113/1"}, {"205/1", "-3/1", "100/1", "302/1"},
            {"210/1", "3/1", "0/1", "213/1"}, {"405/1", "-3/1", "0/1", "402/1"}};
        int[] ticks = {0, 39, 40, 79};
        for (int i = 0; i < ticks.length; i++) {
            for (int what = 0; what <= 3; what++) {
                tells(want[i][what], x.at(0, ticks[i], what));
            }
        }
        for (int what : new int[] {LEAST, -1, 4, MOST}) {
            none(2, x.at(0, 0, what));
            none(2, x.at(0, 79, what));
            none(2, x.at(1, 0, what));
            none(1, x.at(0, 80, what));
        }
        for (int tick : NO_FAR_TICKS) {
            none(1, x.at(0, tick, 0));
        }
        none(6, x.at(1, 79, 3));
        outIs("402/1");
    }

    private static void restEdges() {
        sentence("OUT is the REST of a TICK (1; 7: a GAP alone; 6; asked in this order).");
        yes(x.model(0, true, 0));
        none(1, x.rest(4, 0));
        none(1, x.rest(0, 40));
        none(7, x.rest(0, 0));
        yes(x.put(0, 39, 4));
        none(6, x.rest(0, 39));
        none(7, x.rest(0, 38));
        yes(x.put(0, 0, 4));
        tells("0/1", x.rest(0, 39));
        yes(x.put(0, 1, 4));
        strangers(0, 1, 2);
        tells("0/1", x.rest(0, 1));
        none(7, x.rest(0, 2));
        strangers(0, 0);
        none(6, x.rest(0, 0));
        none(6, x.rest(0, 39));
        none(7, x.rest(0, 2));
        none(1, x.rest(0, 79));
    }

    // ---- Promise 23 to 26

    private static void whereEdges() {
        sentence("WHERE (1; 8).");
        for (int row = 0; row < 4; row++) {
            none(8, x.where(row));
            yes(x.put(row, 0, 1));
            none(8, x.where(row));
            yes(x.put(row, 39, 2));
            gives(1, x.where(row));
            steps(row, 38, 39);
            none(8, x.where(row));
        }
        for (int row : NO_ROWS) {
            none(1, x.where(row));
        }
    }

    private static void roundsShares() {
        sentence("ROUNDS: how many STRANGERS there are then (1; 2: n, d 1 to 1,000");
        yes(x.fill(0, 0, 40, 6, 0));
        for (int good : new int[] {1, 2, 999, 1000}) {
            gives(0, x.rounds(0, good, 1));
            gives(0, x.rounds(0, 1, good));
            gives(0, x.rounds(0, good, 1000));
            gives(0, x.rounds(0, 1000, good));
        }
        strangers(0, 7);
        for (int bad : new int[] {LEAST, -1, 0, 1001, MOST}) {
            none(2, x.rounds(0, bad, 1));
            none(2, x.rounds(0, bad, 1000));
            none(2, x.rounds(0, 1, bad));
            none(2, x.rounds(0, 1000, bad));
            none(2, x.rounds(0, bad, bad));
        }
        gives(1, x.told(0, 2));
        gives(1, x.isStrange(0, 7));
    }

    private static void roundsWithoutANumber() {
        sentence("8: no TICK has a number; 6; asked in this order");
        none(8, x.rounds(0, 1, 1));
        strangers(0, 0, 39);
        none(8, x.rounds(0, 1000, 1000));
        gives(2, x.told(0, 2));
        yes(x.model(0, true, 7));
        none(8, x.rounds(0, 1, 1));
        none(2, x.rounds(0, 0, 1));
        none(1, x.rounds(4, 0, 1));
        yes(x.put(0, 39, 1));
        none(6, x.rounds(0, 1, 1));
        gives(2, x.told(0, 2));
        yes(x.model(0, false, 0));
        // The only number is a STRANGER: it counts in the first round.
        gives(0, x.rounds(0, 1, 1));
        gives(0, x.told(0, 2));
        yes(x.gap(0, 39));
        none(8, x.rounds(0, 1, 1));
    }

    private static void pullEdges() {
        sentence("OUT is PULL of u on t (1: t 0 to 79; 7; 6; asked in this order).");
        yes(x.model(0, true, 0));
        none(1, x.pull(4, 0, 0));
        none(7, x.pull(0, 0, 0));
        yes(x.put(0, 39, 10000));
        none(6, x.pull(0, 39, 0));
        none(7, x.pull(0, 38, 0));
        yes(x.put(0, 0, 10000));
        tells("1/1", x.pull(0, 39, 39));
        tells("0/1", x.pull(0, 39, 0));
        tells("79/39", x.pull(0, 39, 79));
        tells("-40/39", x.pull(0, 0, 79));
        for (int t : NO_FAR_TICKS) {
            none(1, x.pull(0, 0, t));
            none(1, x.pull(0, 20, t));
        }
        for (int u : NO_TICKS) {
            none(1, x.pull(0, u, 0));
        }
        none(1, x.pull(0, 40, 80));
        strangers(0, 39);
        none(7, x.pull(0, 39, 0));
        none(6, x.pull(0, 0, 0));
        outIs("-40/39");
    }

    /** Each ROW has a number, so that none is OPEN. */
    private static void closeAll() {
        for (int row = 0; row < 4; row++) {
            yes(x.put(row, 0, 10 * row));
        }
    }

    private static void rightTwice() {
        sentence("1: also ROWS told twice");
        closeAll();
        int[][] twice = {{0, 0, 2, 3}, {0, 1, 0, 3}, {0, 1, 2, 0}, {0, 1, 1, 3}, {0, 1, 2, 1}, {0, 1, 2, 2},
            {3, 3, 3, 3}, {0, 0, NONE, 3}, {0, 1, NONE, 0}, {0, 1, NONE, 1}, {2, 2, NONE, 2}};
        for (int[] r : twice) {
            none(1, x.right(r[0], r[1], r[2], r[3], 0, 0));
            none(1, x.right(r[0], r[1], r[2], r[3], 1, 79));
        }
        for (int row : NO_ROWS) {
            none(1, x.right(row, 1, 2, 3, 1, 0));
            none(1, x.right(0, row, 2, 3, 0, 0));
            none(1, x.right(0, 1, 2, row, 0, 0));
            none(1, x.right(0, 1, NONE, row, 0, 0));
        }
        for (int row : new int[] {LEAST, -2, 4, MOST}) {
            none(1, x.right(0, 1, row, 3, 0, 0));
        }
        none(1, x.right(NONE, NONE, NONE, NONE, 0, 0));
        outIs("");
        tells("0/1", x.right(0, 1, 2, 3, 0, 0));
        tells("20/1", x.right(2, 1, NONE, 3, 0, 0));
    }

    private static void rightOfNone() {
        sentence("part k (0 to 2) of ROWS a, b, and c (or NONE) (1: also .. k of none");
        closeAll();
        yes(x.put(3, 0, 90));
        tells("20/1", x.right(0, 1, 2, 3, 0, 0));
        tells("30/1", x.right(0, 1, 2, 3, 1, 0));
        tells("40/1", x.right(0, 1, 2, 3, 2, 0));
        tells("40/1", x.right(0, 1, NONE, 3, 0, 0));
        tells("50/1", x.right(0, 1, NONE, 3, 1, 0));
        none(1, x.right(0, 1, NONE, 3, 2, 0));
        for (int k : new int[] {LEAST, -1, 3, MOST}) {
            none(1, x.right(0, 1, 2, 3, k, 0));
            none(1, x.right(0, 1, NONE, 3, k, 0));
        }
        for (int tick : NO_FAR_TICKS) {
            none(1, x.right(0, 1, 2, 3, 0, tick));
            none(1, x.right(0, 1, NONE, 3, 0, tick));
        }
        tells("40/1", x.right(0, 1, 2, 3, 2, 79));
    }

    private static void rightOpen() {
        sentence("6: any");
        int[][] orders = {{0, 1, 2, 3}, {1, 2, 3, 0}, {2, 3, 0, 1}, {3, 0, 1, 2}};
        for (int[] r : orders) {
            fresh();
            closeAll();
            yes(x.gap(0, 0));
            for (int k = 0; k < 3; k++) {
                none(6, x.right(r[0], r[1], r[2], r[3], k, 79));
            }
            none(1, x.right(r[0], r[1], r[2], r[3], 3, 79));
            none(1, x.right(r[0], r[1], r[2], r[3], 0, 80));
            outIs("");
        }
        // Without c, the fourth ROW may be OPEN.
        tells("10/1", x.right(3, 2, NONE, 1, 0, 0));
        none(6, x.right(0, 1, NONE, 2, 1, 0));
        none(6, x.right(1, 0, NONE, 2, 0, 0));
        none(6, x.right(1, 2, NONE, 0, 0, 0));
    }
}
