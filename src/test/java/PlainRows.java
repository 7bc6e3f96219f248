import java.math.BigInteger;
import java.util.ArrayList;
import java.util.List;
import java.util.TreeSet;

/**
 * The document's words, followed as literally and as slowly as can be, to hold SeasonRows against.
 * It shares no method with it: LEVEL and all but the last number of the season are unknowns of
 * their own, the equations are solved in fractions, WHERE tries every tick and PULL parts the row
 * a second time with a greater number.
 */
final class PlainRows {
    static final class Row {
        final Integer[] numbers = new Integer[40];
        boolean line = false;
        int period = 0;
        TreeSet<Integer> steps = new TreeSet<>();
        List<TreeSet<Integer>> feasts = new ArrayList<>();
        TreeSet<Integer> strangers = new TreeSet<>();

        boolean counted(int t) {
            return numbers[t] != null && !strangers.contains(t);
        }
    }

    /** A fraction in lowest terms. */
    static final class Frac {
        static final Frac ZERO = new Frac(BigInteger.ZERO, BigInteger.ONE);
        final BigInteger top;
        final BigInteger bottom;

        Frac(BigInteger top, BigInteger bottom) {
            BigInteger g = top.gcd(bottom);
            if (bottom.signum() < 0) {
                g = g.negate();
            }
            this.top = top.divide(g);
            this.bottom = bottom.divide(g);
        }

        static Frac of(long v) {
            return new Frac(BigInteger.valueOf(v), BigInteger.ONE);
        }

        Frac plus(Frac o) {
            return new Frac(top.multiply(o.bottom).add(o.top.multiply(bottom)), bottom.multiply(o.bottom));
        }

        Frac minus(Frac o) {
            return plus(o.times(of(-1)));
        }

        Frac times(Frac o) {
            return new Frac(top.multiply(o.top), bottom.multiply(o.bottom));
        }

        Frac by(Frac o) {
            return new Frac(top.multiply(o.bottom), bottom.multiply(o.top));
        }

        Frac size() {
            return new Frac(top.abs(), bottom);
        }

        int compare(Frac o) {
            return top.multiply(o.bottom).compareTo(o.top.multiply(bottom));
        }

        boolean isZero() {
            return top.signum() == 0;
        }

        @Override
        public String toString() {
            return top + "/" + bottom;
        }
    }

    /** The numbers of a parting. */
    static final class Parts {
        Frac level;
        Frac slope = Frac.ZERO;
        final List<Frac> steps = new ArrayList<>();
        final List<Frac> feasts = new ArrayList<>();
        final List<Frac> season = new ArrayList<>();
        Frac cost = Frac.ZERO;

        Frac trend(Row r, int t) {
            Frac sum = level.plus(slope.times(Frac.of(t)));
            int k = 0;
            for (int s : r.steps) {
                if (s <= t) {
                    sum = sum.plus(steps.get(k));
                }
                k++;
            }
            return sum;
        }

        Frac seasonAt(int t) {
            return season.isEmpty() ? Frac.ZERO : season.get(t % season.size());
        }

        Frac feastAt(Row r, int t) {
            Frac sum = Frac.ZERO;
            for (int f = 0; f < r.feasts.size(); f++) {
                if (r.feasts.get(f).contains(t)) {
                    sum = sum.plus(feasts.get(f));
                }
            }
            return sum;
        }

        Frac foretold(Row r, int t) {
            return trend(r, t).plus(seasonAt(t)).plus(feastAt(r, t));
        }

        Frac rest(Row r, int t) {
            return Frac.of(r.numbers[t]).minus(foretold(r, t));
        }
    }

    final Row[] rows = {new Row(), new Row(), new Row(), new Row()};
    int status = 0;
    String out = "";

    private boolean no(int s) {
        status = s;
        return false;
    }

    private boolean yes() {
        status = 0;
        return true;
    }

    private int none(int s) {
        status = s;
        return -1;
    }

    private int give(int v) {
        status = 0;
        return v;
    }

    private int tell(Frac f) {
        out = f.toString();
        return give(out.length());
    }

    private static boolean row(int r) {
        return r >= 0 && r <= 3;
    }

    private static boolean tick(int t) {
        return t >= 0 && t <= 39;
    }

    private static boolean far(int t) {
        return t >= 0 && t <= 79;
    }

    boolean put(int row, int tick, int v) {
        if (!row(row) || !tick(tick)) {
            return no(1);
        }
        if (v < -10000 || v > 10000) {
            return no(2);
        }
        rows[row].numbers[tick] = v;
        return yes();
    }

    boolean fill(int row, int tick, int many, int v, int by) {
        if (!row(row) || !tick(tick)) {
            return no(1);
        }
        if (many < 1 || many > 40) {
            return no(2);
        }
        for (int i = 0; i < many; i++) {
            long x = v + (long) i * by;
            if (!tick(tick + i) || x < -10000 || x > 10000) {
                return no(2);
            }
        }
        for (int i = 0; i < many; i++) {
            rows[row].numbers[tick + i] = v + i * by;
        }
        return yes();
    }

    boolean gap(int row, int tick) {
        if (!row(row) || !tick(tick)) {
            return no(1);
        }
        if (rows[row].numbers[tick] == null) {
            return no(5);
        }
        rows[row].numbers[tick] = null;
        return yes();
    }

    int number(int row, int tick) {
        if (!row(row) || !tick(tick)) {
            return none(1);
        }
        Integer v = rows[row].numbers[tick];
        return v == null ? none(7) : give(v);
    }

    int told(int row, int what) {
        if (!row(row)) {
            return none(1);
        }
        if (what < 0 || what > 6) {
            return none(2);
        }
        Row r = rows[row];
        int numbers = 0;
        int counted = 0;
        for (int t = 0; t < 40; t++) {
            numbers += r.numbers[t] != null ? 1 : 0;
            counted += r.counted(t) ? 1 : 0;
        }
        int[] all = {numbers, counted, r.strangers.size(), r.steps.size(), r.feasts.size(), r.period, r.line ? 1 : 0};
        return give(all[what]);
    }

    boolean model(int row, boolean line, int period) {
        if (!row(row)) {
            return no(1);
        }
        if (period < 0 || period == 1 || period > 7) {
            return no(2);
        }
        rows[row].line = line;
        rows[row].period = period;
        return yes();
    }

    boolean step(int row, int tick) {
        if (!row(row) || !tick(tick)) {
            return no(1);
        }
        if (tick == 0) {
            return no(2);
        }
        if (rows[row].steps.size() == 3) {
            return no(3);
        }
        return rows[row].steps.add(tick) ? yes() : no(4);
    }

    boolean unstep(int row, int tick) {
        if (!row(row) || !tick(tick)) {
            return no(1);
        }
        return rows[row].steps.remove(tick) ? yes() : no(5);
    }

    int feast(int row) {
        if (!row(row)) {
            return none(1);
        }
        if (rows[row].feasts.size() == 2) {
            return none(3);
        }
        rows[row].feasts.add(new TreeSet<>());
        return give(rows[row].feasts.size() - 1);
    }

    boolean on(int row, int feast, int tick) {
        if (!row(row) || !tick(tick)) {
            return no(1);
        }
        if (feast < 0 || feast >= rows[row].feasts.size()) {
            return no(5);
        }
        TreeSet<Integer> f = rows[row].feasts.get(feast);
        if (f.size() == 8) {
            return no(3);
        }
        return f.add(tick) ? yes() : no(4);
    }

    boolean plain(int row) {
        if (!row(row)) {
            return no(1);
        }
        rows[row].steps.clear();
        rows[row].feasts.clear();
        return yes();
    }

    boolean strange(int row, int tick, boolean is) {
        if (!row(row) || !tick(tick)) {
            return no(1);
        }
        TreeSet<Integer> s = rows[row].strangers;
        return (is ? s.add(tick) : s.remove(tick)) ? yes() : no(4);
    }

    int isStrange(int row, int tick) {
        if (!row(row) || !tick(tick)) {
            return none(1);
        }
        return give(rows[row].strangers.contains(tick) ? 1 : 0);
    }

    int part(int row, int what) {
        if (!row(row)) {
            return none(1);
        }
        if (what < 0 || what > 2) {
            return none(2);
        }
        Parts p = parting(rows[row]);
        if (p == null) {
            return none(6);
        }
        return tell(what == 0 ? p.level : what == 1 ? p.slope : p.cost);
    }

    int stepBy(int row, int k) {
        if (!row(row)) {
            return none(1);
        }
        if (k < 0 || k >= rows[row].steps.size()) {
            return none(5);
        }
        Parts p = parting(rows[row]);
        return p == null ? none(6) : tell(p.steps.get(k));
    }

    int feastBy(int row, int feast) {
        if (!row(row)) {
            return none(1);
        }
        if (feast < 0 || feast >= rows[row].feasts.size()) {
            return none(5);
        }
        Parts p = parting(rows[row]);
        return p == null ? none(6) : tell(p.feasts.get(feast));
    }

    int season(int row, int place) {
        if (!row(row)) {
            return none(1);
        }
        if (place < 0 || place >= rows[row].period) {
            return none(5);
        }
        Parts p = parting(rows[row]);
        return p == null ? none(6) : tell(p.season.get(place));
    }

    int at(int row, int tick, int what) {
        if (!row(row) || !far(tick)) {
            return none(1);
        }
        if (what < 0 || what > 3) {
            return none(2);
        }
        Row r = rows[row];
        Parts p = parting(r);
        if (p == null) {
            return none(6);
        }
        Frac[] all = {p.trend(r, tick), p.seasonAt(tick), p.feastAt(r, tick), p.foretold(r, tick)};
        return tell(all[what]);
    }

    int rest(int row, int tick) {
        if (!row(row) || !tick(tick)) {
            return none(1);
        }
        Row r = rows[row];
        if (r.numbers[tick] == null) {
            return none(7);
        }
        Parts p = parting(r);
        return p == null ? none(6) : tell(p.rest(r, tick));
    }

    int where(int row) {
        if (!row(row)) {
            return none(1);
        }
        Row r = rows[row];
        int best = -1;
        Frac least = null;
        if (r.steps.size() < 3) {
            for (int t = 1; t < 40; t++) {
                if (!r.steps.add(t)) {
                    continue;
                }
                Parts p = parting(r);
                r.steps.remove(t);
                if (p != null && (least == null || p.cost.compare(least) < 0)) {
                    least = p.cost;
                    best = t;
                }
            }
        }
        return best < 0 ? none(8) : give(best);
    }

    int rounds(int row, int n, int d) {
        if (!row(row)) {
            return none(1);
        }
        if (n < 1 || n > 1000 || d < 1 || d > 1000) {
            return none(2);
        }
        if (told(row, 0) == 0) {
            return none(8);
        }
        Row r = rows[row];
        TreeSet<Integer> ahead = r.strangers;
        r.strangers = new TreeSet<>();
        for (int round = 1; round <= 5; round++) {
            Parts p = parting(r);
            if (p == null) {
                r.strangers = ahead;
                return none(6);
            }
            List<Integer> ticks = new ArrayList<>();
            List<Frac> sizes = new ArrayList<>();
            for (int t = 0; t < 40; t++) {
                if (r.counted(t)) {
                    ticks.add(t);
                    sizes.add(p.rest(r, t).size());
                }
            }
            List<Frac> sorted = new ArrayList<>(sizes);
            sorted.sort((a, b) -> b.compare(a));
            Frac middle = sorted.get((sorted.size() + 1) / 2 - 1);
            Frac limit = middle.times(Frac.of(n)).by(Frac.of(d));
            boolean any = false;
            for (int i = 0; i < ticks.size(); i++) {
                if (sizes.get(i).compare(limit) > 0) {
                    r.strangers.add(ticks.get(i));
                    any = true;
                }
            }
            if (!any) {
                break;
            }
        }
        return give(r.strangers.size());
    }

    int pull(int row, int u, int t) {
        if (!row(row) || !tick(u) || !far(t)) {
            return none(1);
        }
        Row r = rows[row];
        if (!r.counted(u)) {
            return none(7);
        }
        Parts p = parting(r);
        if (p == null) {
            return none(6);
        }
        r.numbers[u]++;
        Frac greater = parting(r).foretold(r, t);
        r.numbers[u]--;
        return tell(greater.minus(p.foretold(r, t)));
    }

    int right(int a, int b, int c, int whole, int k, int tick) {
        int[] all = c == -1 ? new int[] {a, b, whole} : new int[] {a, b, c, whole};
        TreeSet<Integer> told = new TreeSet<>();
        for (int r : all) {
            if (!row(r) || !told.add(r)) {
                return none(1);
            }
        }
        int parts = all.length - 1;
        if (k < 0 || k >= parts || !far(tick)) {
            return none(1);
        }
        Frac[] foretold = new Frac[all.length];
        for (int i = 0; i < all.length; i++) {
            Parts p = parting(rows[all[i]]);
            if (p == null) {
                return none(6);
            }
            foretold[i] = p.foretold(rows[all[i]], tick);
        }
        Frac above = foretold[parts];
        for (int i = 0; i < parts; i++) {
            above = above.minus(foretold[i]);
        }
        return tell(foretold[k].plus(above.by(Frac.of(parts))));
    }

    /** Null if the row is OPEN. */
    static Parts parting(Row r) {
        List<long[]> equations = new ArrayList<>();
        for (int t = 0; t < 40; t++) {
            if (r.counted(t)) {
                equations.add(equation(r, t));
            }
        }
        int many = equation(r, 0).length - 1;
        Frac[][] normal = new Frac[many][many + 1];
        for (int i = 0; i < many; i++) {
            for (int j = 0; j <= many; j++) {
                long sum = 0;
                for (long[] e : equations) {
                    sum += e[i] * e[j];
                }
                normal[i][j] = Frac.of(sum);
            }
        }
        Frac[] x = solve(normal);
        if (x == null) {
            return null;
        }
        Parts p = named(r, x);
        for (int t = 0; t < 40; t++) {
            if (r.counted(t)) {
                Frac rest = p.rest(r, t);
                p.cost = p.cost.plus(rest.times(rest));
            }
        }
        return p;
    }

    /** What each unknown counts at a tick, and the number there. */
    private static long[] equation(Row r, int t) {
        List<Long> all = new ArrayList<>();
        all.add(1L);
        if (r.line) {
            all.add((long) t);
        }
        for (int s : r.steps) {
            all.add(t >= s ? 1L : 0L);
        }
        for (TreeSet<Integer> f : r.feasts) {
            all.add(f.contains(t) ? 1L : 0L);
        }
        for (int p = 0; p + 1 < r.period; p++) {
            int place = t % r.period;
            all.add(place == p ? 1L : place == r.period - 1 ? -1L : 0L);
        }
        all.add(r.numbers[t] == null ? 0L : (long) r.numbers[t]);
        return all.stream().mapToLong(v -> v).toArray();
    }

    private static Parts named(Row r, Frac[] x) {
        Parts p = new Parts();
        int i = 0;
        p.level = x[i++];
        if (r.line) {
            p.slope = x[i++];
        }
        for (int k = 0; k < r.steps.size(); k++) {
            p.steps.add(x[i++]);
        }
        for (int k = 0; k < r.feasts.size(); k++) {
            p.feasts.add(x[i++]);
        }
        Frac last = Frac.ZERO;
        for (int k = 0; k + 1 < r.period; k++) {
            last = last.minus(x[i]);
            p.season.add(x[i++]);
        }
        if (r.period > 0) {
            p.season.add(last);
        }
        return p;
    }

    private static Frac[] solve(Frac[][] m) {
        int n = m.length;
        for (int c = 0; c < n; c++) {
            int pivot = c;
            while (pivot < n && m[pivot][c].isZero()) {
                pivot++;
            }
            if (pivot == n) {
                return null;
            }
            Frac[] kept = m[c];
            m[c] = m[pivot];
            m[pivot] = kept;
            for (int i = 0; i < n; i++) {
                if (i == c || m[i][c].isZero()) {
                    continue;
                }
                Frac share = m[i][c].by(m[c][c]);
                for (int j = c; j <= n; j++) {
                    m[i][j] = m[i][j].minus(share.times(m[c][j]));
                }
            }
        }
        Frac[] x = new Frac[n];
        for (int i = 0; i < n; i++) {
            x[i] = m[i][n].by(m[i][i]);
        }
        return x;
    }
}
