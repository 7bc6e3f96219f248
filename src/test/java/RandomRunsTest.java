import java.util.Random;

/** Runs of calls drawn from fixed seeds, each answer held against PlainRows. */
public final class RandomRunsTest {
    private static final int[] ODD = {Integer.MIN_VALUE, -10001, -10000, -2, -1, 0, 1, 2, 3, 4, 6, 7, 8, 39, 40, 41,
        79, 80, 1000, 1001, 10000, 10001, Integer.MAX_VALUE};

    // The dearest step asks for one long OUT, or for a feast and its ticks without OUT.
    private static final int CALLS_OF_A_STEP = 120;
    private static final int CALLS_TO_SPARE = 200;

    private final Random random;
    private final String run;
    private final CountedRows rows = new CountedRows();
    private final PlainRows plain = new PlainRows();
    private static int wrong = 0;
    private static int calls = 0;
    private static final int[] statuses = new int[9];

    private RandomRunsTest(long seed) {
        random = new Random(seed);
        run = "seed " + seed;
    }

    public static void main(String[] args) {
        int runs = args.length > 0 ? Integer.parseInt(args[0]) : 1600;
        for (int seed = 1; seed <= runs; seed++) {
            RandomRunsTest test = new RandomRunsTest(seed);
            test.play(seed % 4);
        }
        System.out.println("calls: " + calls + ", by status: " + java.util.Arrays.toString(statuses));
        for (int s = 0; s < statuses.length; s++) {
            if (statuses[s] == 0) {
                wrong++;
                System.out.println("no call had status " + s);
            }
        }
        System.out.println(wrong == 0 ? "all answers are as due" : wrong + " answers are not as due");
        if (wrong != 0) {
            System.exit(1);
        }
    }

    /** Kind 0: small rows, 1: any, 2: full rows of great numbers, 3: few numbers and many models. */
    private void play(int kind) {
        if (kind == 2) {
            fillWithGreatNumbers();
        }
        int changesAtFirst = random.nextInt(40);
        for (int i = 0; rows.left() >= CALLS_OF_A_STEP; i++) {
            if (i < changesAtFirst || random.nextInt(3) == 0) {
                change(kind);
            } else {
                ask();
            }
        }
        sameState();
    }

    private void fillWithGreatNumbers() {
        for (int row = random.nextInt(3); row < 4; row++) {
            for (int tick = 0; tick < 40; tick++) {
                int v = random.nextBoolean() ? 10000 - random.nextInt(9) : random.nextInt(9) - 10000;
                check("put", rows.put(row, tick, v) ? 1 : 0, plain.put(row, tick, v) ? 1 : 0);
            }
        }
    }

    private int row() {
        return random.nextInt(40) == 0 ? odd() : random.nextInt(4);
    }

    private int odd() {
        return ODD[random.nextInt(ODD.length)];
    }

    private int within(int low, int high) {
        return random.nextInt(25) == 0 ? odd() : low + random.nextInt(high - low + 1);
    }

    private int tick(int kind) {
        return kind == 0 || kind == 3 ? within(0, 11) : within(0, 39);
    }

    private void change(int kind) {
        int row = row();
        int tick = tick(kind);
        switch (random.nextInt(14)) {
            case 0: case 1: {
                int v = kind == 0 ? within(-5, 5) : within(-10000, 10000);
                same("put", rows.put(row, tick, v), plain.put(row, tick, v));
                break;
            }
            case 2: case 3: case 4: {
                int many = kind == 1 ? within(10, 40) : within(1, 12);
                int v = within(-100, 100);
                int by = within(-20, 20);
                same("fill", rows.fill(row, tick, many, v, by), plain.fill(row, tick, many, v, by));
                break;
            }
            case 5:
                same("gap", rows.gap(row, tick), plain.gap(row, tick));
                break;
            case 6: case 7: {
                boolean line = random.nextBoolean();
                int period = random.nextInt(3) == 0 ? 0 : within(0, 8);
                same("model", rows.model(row, line, period), plain.model(row, line, period));
                break;
            }
            case 8: case 9:
                same("step", rows.step(row, tick), plain.step(row, tick));
                break;
            case 10:
                if (random.nextInt(4) == 0) {
                    same("plain", rows.plain(row), plain.plain(row));
                } else {
                    same("unstep", rows.unstep(row, tick), plain.unstep(row, tick));
                }
                break;
            case 11: {
                same("feast", rows.feast(row), plain.feast(row));
                int many = random.nextInt(10);
                for (int i = 0; i < many; i++) {
                    int feast = within(0, 1);
                    int t = tick(kind);
                    same("on", rows.on(row, feast, t), plain.on(row, feast, t));
                }
                break;
            }
            default: {
                boolean is = random.nextInt(3) == 0;
                same("strange", rows.strange(row, tick, is), plain.strange(row, tick, is));
                break;
            }
        }
    }

    private void ask() {
        int row = row();
        int tick = within(0, 39);
        int far = within(0, 79);
        int what = within(0, 3);
        switch (random.nextInt(14)) {
            case 0:
                same("number", rows.number(row, tick), plain.number(row, tick));
                break;
            case 1: {
                int which = within(0, 6);
                same("told", rows.told(row, which), plain.told(row, which));
                break;
            }
            case 2:
                same("isStrange", rows.isStrange(row, tick), plain.isStrange(row, tick));
                break;
            case 3: case 4:
                tellsSame("part", rows.part(row, what), plain.part(row, what));
                break;
            case 5:
                tellsSame("stepBy", rows.stepBy(row, what), plain.stepBy(row, what));
                break;
            case 6:
                tellsSame("feastBy", rows.feastBy(row, what), plain.feastBy(row, what));
                break;
            case 7: {
                int place = within(0, 7);
                tellsSame("season", rows.season(row, place), plain.season(row, place));
                break;
            }
            case 8:
                tellsSame("at", rows.at(row, far, what), plain.at(row, far, what));
                break;
            case 9:
                tellsSame("rest", rows.rest(row, tick), plain.rest(row, tick));
                break;
            case 10:
                if (random.nextInt(3) == 0) {
                    same("where", rows.where(row), plain.where(row));
                }
                break;
            case 11: {
                int n = random.nextBoolean() ? within(1, 6) : within(1, 1000);
                int d = random.nextBoolean() ? within(1, 3) : within(1, 1000);
                same("rounds", rows.rounds(row, n, d), plain.rounds(row, n, d));
                break;
            }
            case 12:
                tellsSame("pull", rows.pull(row, tick, far), plain.pull(row, tick, far));
                break;
            default:
                askRight(far);
                break;
        }
    }

    private void askRight(int tick) {
        int[] all = {0, 1, 2, 3};
        for (int i = 3; i > 0; i--) {
            int j = random.nextInt(i + 1);
            int kept = all[i];
            all[i] = all[j];
            all[j] = kept;
        }
        int a = random.nextInt(15) == 0 ? row() : all[0];
        int b = random.nextInt(15) == 0 ? row() : all[1];
        int c = random.nextInt(2) == 0 ? -1 : random.nextInt(15) == 0 ? odd() : all[2];
        int whole = random.nextInt(15) == 0 ? row() : all[3];
        int k = within(0, 2);
        tellsSame("right", rows.right(a, b, c, whole, k, tick), plain.right(a, b, c, whole, k, tick));
    }

    private void same(String call, boolean got, boolean want) {
        same(call, got ? 1 : 0, want ? 1 : 0, false);
    }

    private void same(String call, int got, int want) {
        same(call, got, want, false);
    }

    private void tellsSame(String call, int got, int want) {
        same(call, got, want, plain.status == 0);
    }

    /** Behind a call that tells, OUT is always read; behind another now and then: it stays. */
    private void same(String call, int got, int want, boolean tells) {
        calls++;
        statuses[plain.status]++;
        check(call, got, want);
        int status = rows.status();
        if (status != plain.status) {
            wrong++;
            System.out.println(run + ", " + call + " has status " + status + ", due is " + plain.status);
        }
        if (tells || random.nextInt(6) == 0 && rows.left() >= CALLS_TO_SPARE) {
            String out = rows.text();
            if (!out.equals(plain.out)) {
                wrong++;
                System.out.println(run + ", " + call + " leaves OUT " + out + ", due is " + plain.out);
            }
        }
    }

    /** Spends the calls that are left on what the rows hold. */
    private void sameState() {
        for (int row = 0; row < 4; row++) {
            for (int what = 0; what < 7; what++) {
                check("told", rows.told(row, what), plain.told(row, what));
            }
        }
        while (rows.left() >= 3) {
            int row = random.nextInt(4);
            int tick = random.nextInt(40);
            check("number", rows.number(row, tick), plain.number(row, tick));
            check("status of number", rows.status(), plain.status);
            check("isStrange", rows.isStrange(row, tick), plain.isStrange(row, tick));
        }
    }

    private void check(String call, int got, int want) {
        if (got != want) {
            wrong++;
            System.out.println(run + ", call " + calls + ": " + call + " answered " + got + ", due is " + want);
        }
    }
}
