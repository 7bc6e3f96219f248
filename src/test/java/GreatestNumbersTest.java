import java.util.Random;

/** The greatest models, numbers and fractions that the document allows, held against PlainRows. */
public final class GreatestNumbersTest {
    // A call, its status, and at most so many bytes of OUT and its end.
    private static final int CALLS_TO_ASK = 2 + 72 + 1;
    private static int wrong = 0;
    private static int longest = 0;

    private final int kind;
    private CountedRows rows;
    private PlainRows plain;

    private GreatestNumbersTest(int kind) {
        this.kind = kind;
        begin();
    }

    public static void main(String[] args) {
        for (int kind = 0; kind < 8; kind++) {
            GreatestNumbersTest test = new GreatestNumbersTest(kind);
            for (int row = 0; row < 4; row++) {
                test.askNumbers(row);
                test.askTicks(row);
                test.askSearches(row);
            }
            test.askRight();
        }
        System.out.println("the longest OUT had " + longest + " bytes");
        System.out.println(wrong == 0 ? "all answers are as due" : wrong + " answers are not as due");
        if (wrong != 0) {
            System.exit(1);
        }
    }

    private void begin() {
        rows = new CountedRows();
        plain = new PlainRows();
        Random random = new Random(kind);
        for (int row = 0; row < 4; row++) {
            fillRow(row, random);
        }
    }

    /** Begins anew if the object has not as many calls left as these questions ask for. */
    private void ready(int questions) {
        if (rows.left() < questions * CALLS_TO_ASK) {
            begin();
        }
    }

    /** Every row with a line, the period 7, 3 steps and 2 feasts of 8 ticks, at other ticks each. */
    private void fillRow(int row, Random random) {
        same("model", rows.model(row, true, 7), plain.model(row, true, 7));
        for (int tick = 0; tick < 40; tick++) {
            int v = number(tick, random);
            same("put", rows.put(row, tick, v), plain.put(row, tick, v));
        }
        for (int k = 1; k <= 3; k++) {
            int tick = kind % 2 == 0 ? 10 * k + row - 3 : k + 2 * row;
            same("step", rows.step(row, tick), plain.step(row, tick));
        }
        for (int feast = 0; feast < 2; feast++) {
            same("feast", rows.feast(row), plain.feast(row));
            for (int k = 0; k < 8; k++) {
                int tick = (feast + 5 * k + (k % (3 + row) == 0 ? 2 : 0)) % 40;
                same("on", rows.on(row, feast, tick), plain.on(row, feast, tick));
            }
        }
    }

    private int number(int tick, Random random) {
        switch (kind) {
            case 0:
                return 10000;
            case 1:
                return -10000;
            case 2:
                return tick % 2 == 0 ? 10000 : -10000;
            case 3:
                return tick < 20 ? -10000 : 10000;
            default:
                return random.nextBoolean() ? 10000 - random.nextInt(4) : random.nextInt(4) - 10000;
        }
    }

    private void askNumbers(int row) {
        for (int what = 0; what < 3; what++) {
            ready(3);
            due("part", rows.part(row, what), plain.part(row, what));
            due("stepBy", rows.stepBy(row, what), plain.stepBy(row, what));
            due("feastBy", rows.feastBy(row, what), plain.feastBy(row, what));
        }
        for (int place = 0; place < 7; place++) {
            ready(1);
            due("season", rows.season(row, place), plain.season(row, place));
        }
    }

    private void askTicks(int row) {
        for (int tick = 0; tick < 80; tick += 13) {
            for (int what = 0; what < 4; what++) {
                ready(1);
                due("at", rows.at(row, tick, what), plain.at(row, tick, what));
            }
            ready(2);
            due("rest", rows.rest(row, tick % 40), plain.rest(row, tick % 40));
            due("pull", rows.pull(row, tick % 40, 79), plain.pull(row, tick % 40, 79));
        }
    }

    private void askSearches(int row) {
        ready(3);
        int step = plain.rows[row].steps.first();
        due("unstep", rows.unstep(row, step), plain.unstep(row, step));
        due("where", rows.where(row), plain.where(row));
        due("step", rows.step(row, step), plain.step(row, step));
        ready(3);
        due("rounds", rows.rounds(row, 1000, 999), plain.rounds(row, 1000, 999));
        due("rounds", rows.rounds(row, 1, 1), plain.rounds(row, 1, 1));
        due("cost", rows.part(row, 2), plain.part(row, 2));
        // The rounds left strangers, and the next questions are to find all numbers counted.
        begin();
    }

    private void askRight() {
        for (int k = 0; k < 3; k++) {
            for (int tick = 0; tick < 80; tick += 79) {
                ready(2);
                due("right", rows.right(0, 1, 2, 3, k, tick), plain.right(0, 1, 2, 3, k, tick));
                due("right", rows.right(3, 2, -1, 1, k, tick), plain.right(3, 2, -1, 1, k, tick));
            }
        }
    }

    private void same(String call, Object got, Object want) {
        if (!got.equals(want)) {
            wrong++;
            System.out.println(call + " answered " + got + ", due is " + want);
        }
    }

    private void due(String call, Object got, Object want) {
        String out = rows.text();
        int status = rows.status();
        longest = Math.max(longest, out.length());
        if (!got.equals(want) || status != plain.status || !out.equals(plain.out)) {
            wrong++;
            System.out.println(call + " answered " + got + " status " + status + " out " + out
                + ", due is " + want + " status " + plain.status + " out " + plain.out);
        }
    }
}
