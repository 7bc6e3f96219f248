/**
 * SeasonRows with a count of its calls. The document leaves free what an object answers behind its
 * 512th call, so a test that asks for more is itself wrong, and ends here.
 */
final class CountedRows {
    static final int NONE = SeasonRows.NONE;
    private static final int MOST_CALLS = 512;

    private final SeasonRows rows = new SeasonRows();
    private int calls = 0;

    /** How many calls the object has left. */
    int left() {
        return MOST_CALLS - calls;
    }

    private SeasonRows next() {
        if (calls == MOST_CALLS) {
            throw new IllegalStateException("a test asks for an answer behind the 512th call of an object");
        }
        calls++;
        return rows;
    }

    int status() {
        return next().status();
    }

    int out(int k) {
        return next().out(k);
    }

    /** All bytes of OUT, one call for each and one that finds the end. */
    String text() {
        StringBuilder all = new StringBuilder();
        int now = out(0);
        for (int k = 1; now != NONE; k++) {
            all.append((char) now);
            now = out(k);
        }
        return all.toString();
    }

    boolean put(int row, int tick, int v) {
        return next().put(row, tick, v);
    }

    boolean fill(int row, int tick, int many, int v, int by) {
        return next().fill(row, tick, many, v, by);
    }

    boolean gap(int row, int tick) {
        return next().gap(row, tick);
    }

    int number(int row, int tick) {
        return next().number(row, tick);
    }

    int told(int row, int what) {
        return next().told(row, what);
    }

    boolean model(int row, boolean line, int period) {
        return next().model(row, line, period);
    }

    boolean step(int row, int tick) {
        return next().step(row, tick);
    }

    boolean unstep(int row, int tick) {
        return next().unstep(row, tick);
    }

    int feast(int row) {
        return next().feast(row);
    }

    boolean on(int row, int feast, int tick) {
        return next().on(row, feast, tick);
    }

    boolean plain(int row) {
        return next().plain(row);
    }

    boolean strange(int row, int tick, boolean is) {
        return next().strange(row, tick, is);
    }

    int isStrange(int row, int tick) {
        return next().isStrange(row, tick);
    }

    int part(int row, int what) {
        return next().part(row, what);
    }

    int stepBy(int row, int k) {
        return next().stepBy(row, k);
    }

    int feastBy(int row, int feast) {
        return next().feastBy(row, feast);
    }

    int season(int row, int place) {
        return next().season(row, place);
    }

    int at(int row, int tick, int what) {
        return next().at(row, tick, what);
    }

    int rest(int row, int tick) {
        return next().rest(row, tick);
    }

    int where(int row) {
        return next().where(row);
    }

    int rounds(int row, int n, int d) {
        return next().rounds(row, n, d);
    }

    int pull(int row, int u, int t) {
        return next().pull(row, u, t);
    }

    int right(int a, int b, int c, int whole, int k, int tick) {
        return next().right(a, b, c, whole, k, tick);
    }
}
