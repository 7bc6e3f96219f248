/** How a test says what is due, and of which sentence of the document. */
abstract class Checks {
    static final int NONE = SeasonRows.NONE;
    static final int LEAST = Integer.MIN_VALUE;
    static final int MOST = Integer.MAX_VALUE;
    static final int[] NO_ROWS = {LEAST, -2, -1, 4, MOST};
    static final int[] NO_TICKS = {LEAST, -1, 40, 79, MOST};
    static final int[] NO_FAR_TICKS = {LEAST, -1, 80, MOST};

    static CountedRows x = new CountedRows();
    private static String words = "";
    private static int sentences = 0;
    private static int wrong = 0;

    /** A test of its own begins, on a new object. */
    static void sentence(String ofTheDocument) {
        words = ofTheDocument;
        sentences++;
        fresh();
    }

    static void fresh() {
        x = new CountedRows();
    }

    static void end() {
        System.out.println(sentences + " sentences: "
            + (wrong == 0 ? "all answers are as due" : wrong + " answers are not as due"));
        if (wrong != 0) {
            System.exit(1);
        }
    }

    static void due(String what, Object got, Object want) {
        if (!got.equals(want)) {
            wrong++;
            System.out.println("\"" + words + "\": " + what + " answered " + got + ", due is " + want
                + " (" + lines() + ")");
        }
    }

    private static String lines() {
        StringBuilder all = new StringBuilder("lines");
        for (StackTraceElement at : Thread.currentThread().getStackTrace()) {
            String file = at.getFileName();
            if (file != null && file.endsWith("Test.java")) {
                all.append(' ').append(at.getLineNumber());
            }
        }
        return all.toString();
    }

    // ---- a call that was made, and what STATUS is then

    static void yes(boolean got) {
        due("a call", got, true);
        statusIs(0);
    }

    static void no(int status, boolean got) {
        due("a call", got, false);
        statusIs(status);
    }

    static void gives(int want, int got) {
        due("a call", got, want);
        statusIs(0);
    }

    static void none(int status, int got) {
        due("a call", got, NONE);
        statusIs(status);
    }

    static void tells(String want, int got) {
        due("a call", got, want.length());
        outIs(want);
        statusIs(0);
    }

    static void statusIs(int want) {
        due("status", x.status(), want);
    }

    static void outIs(String want) {
        due("OUT", x.text(), want);
    }

    // ---- what many tests set up

    static void numbers(int row, int... all) {
        for (int tick = 0; tick < all.length; tick++) {
            yes(x.put(row, tick, all[tick]));
        }
    }

    static void feastOn(int row, int feast, int... ticks) {
        gives(feast, x.feast(row));
        for (int tick : ticks) {
            yes(x.on(row, feast, tick));
        }
    }

    static void steps(int row, int... ticks) {
        for (int tick : ticks) {
            yes(x.step(row, tick));
        }
    }

    static void strangers(int row, int... ticks) {
        for (int tick : ticks) {
            yes(x.strange(row, tick, true));
        }
    }

    static int bit(boolean answer) {
        return answer ? 1 : 0;
    }
}
