/** Each promise of the document by its number: ordinary inputs, edges and wrong inputs. */
public final class PromisesTest extends Checks {
    public static void main(String[] args) {
        newObject();
        status();
        out();
        put();
        fill();
        gap();
        number();
        told();
        model();
        step();
        unstep();
        feast();
        on();
        plain();
        strange();
        isStrange();
        part();
        stepBy();
        feastBy();
        season();
        at();
        rest();
        where();
        rounds();
        roundsThatEnd();
        pull();
        right();
        end();
    }

    private static void begin(int number) {
        sentence("Promise " + number);
    }

    // ---- the promises

    private static void newObject() {
        begin(1);
        due("status", x.status(), 0);
        due("out", x.out(0), NONE);
        for (int row = 0; row < 4; row++) {
            fresh();
            for (int what = 0; what <= 6; what++) {
                gives(0, x.told(row, what));
            }
            for (int tick = 0; tick < 40; tick++) {
                none(7, x.number(row, tick));
                gives(0, x.isStrange(row, tick));
            }
        }
    }

    private static void status() {
        begin(2);
        none(1, x.told(4, 0));
        due("out", x.out(0), NONE);
        due("status behind out and status", x.status(), 1);
        due("status asked again", x.status(), 1);
        gives(0, x.told(0, 0));
        none(2, x.told(0, 7));
        due("status of the latest call", x.status(), 2);
    }

    private static void out() {
        begin(3);
        due("out", x.out(0), NONE);
        yes(x.put(0, 0, -7));
        tells("-7/1", x.part(0, 0));
        due("out", x.out(0), (int) '-');
        due("out", x.out(1), (int) '7');
        due("out", x.out(2), (int) '/');
        due("out", x.out(3), (int) '1');
        for (int k : new int[] {LEAST, -2, -1, 4, 5, 255, 256, MOST}) {
            due("out", x.out(k), NONE);
        }
        // OUT stays through calls that don't tell, and through those that can't.
        yes(x.put(0, 1, 9));
        gives(0, x.rounds(0, 1, 1));
        none(6, x.part(1, 0));
        none(2, x.part(0, 9));
        none(8, x.where(1));
        due("OUT", x.text(), "-7/1");
        tells("1/1", x.part(0, 0));
        due("OUT is shorter", x.out(3), NONE);
    }

    private static void put() {
        begin(4);
        yes(x.put(0, 0, -10000));
        yes(x.put(3, 39, 10000));
        gives(-10000, x.number(0, 0));
        gives(10000, x.number(3, 39));
        yes(x.put(0, 0, 5));
        gives(5, x.number(0, 0));
        gives(1, x.told(0, 0));
        for (int bad : new int[] {LEAST, -1, 4, MOST}) {
            no(1, x.put(bad, 0, 0));
        }
        for (int bad : new int[] {LEAST, -1, 40, 79, MOST}) {
            no(1, x.put(0, bad, 0));
        }
        for (int bad : new int[] {LEAST, -10001, 10001, MOST}) {
            no(2, x.put(0, 0, bad));
            no(2, x.put(0, 1, bad));
            no(1, x.put(4, 0, bad));
        }
        gives(5, x.number(0, 0));
        none(7, x.number(0, 1));
        yes(x.strange(0, 0, true));
        yes(x.put(0, 0, 6));
        gives(1, x.isStrange(0, 0));
    }

    private static void fill() {
        begin(5);
        yes(x.fill(0, 0, 40, -10000, 512));
        gives(-10000, x.number(0, 0));
        gives(-10000 + 512, x.number(0, 1));
        gives(-10000 + 39 * 512, x.number(0, 39));
        gives(40, x.told(0, 0));
        yes(x.fill(1, 39, 1, 10000, MOST));
        yes(x.fill(1, 38, 2, 10000, -20000));
        gives(-10000, x.number(1, 39));
        yes(x.fill(2, 3, 2, 7, -1));
        none(7, x.number(2, 2));
        gives(7, x.number(2, 3));
        gives(6, x.number(2, 4));
        none(7, x.number(2, 5));
        fillWrong();
    }

    private static void fillWrong() {
        no(1, x.fill(4, 0, 1, 0, 0));
        no(1, x.fill(-1, 0, 41, 0, 0));
        no(1, x.fill(0, -1, 1, 0, 0));
        no(1, x.fill(0, 40, 1, 0, 0));
        for (int bad : new int[] {LEAST, -1, 0, 41, MOST}) {
            no(2, x.fill(3, 0, bad, 0, 0));
        }
        no(2, x.fill(3, 1, 40, 0, 0));
        no(2, x.fill(3, 39, 2, 0, 0));
        no(2, x.fill(3, 0, 1, 10001, 0));
        no(2, x.fill(3, 0, 2, 10001, -1));
        no(2, x.fill(3, 0, 3, 9999, 1));
        no(2, x.fill(3, 0, 3, -9999, -1));
        no(2, x.fill(3, 0, 3, 0, MOST));
        no(2, x.fill(3, 0, 2, 0, LEAST));
        // These come round to 0 in 32 bits.
        no(2, x.fill(3, 0, 5, 0, 1 << 30));
        no(2, x.fill(3, 0, 3, 0, LEAST));
        gives(0, x.told(3, 0));
    }

    private static void gap() {
        begin(6);
        yes(x.fill(0, 0, 40, 1, 0));
        yes(x.gap(0, 0));
        yes(x.gap(0, 39));
        none(7, x.number(0, 0));
        gives(1, x.number(0, 1));
        gives(38, x.told(0, 0));
        no(5, x.gap(0, 0));
        no(5, x.gap(1, 0));
        no(1, x.gap(4, 0));
        no(1, x.gap(-1, 0));
        no(1, x.gap(0, -1));
        no(1, x.gap(0, 40));
        yes(x.strange(0, 5, true));
        yes(x.gap(0, 5));
        gives(1, x.isStrange(0, 5));
    }

    private static void number() {
        begin(7);
        yes(x.put(2, 7, -1));
        gives(-1, x.number(2, 7));
        none(7, x.number(2, 8));
        yes(x.strange(2, 7, true));
        gives(-1, x.number(2, 7));
        none(1, x.number(-1, 7));
        none(1, x.number(4, 7));
        none(1, x.number(2, -1));
        none(1, x.number(2, 40));
    }

    private static void told() {
        begin(8);
        yes(x.fill(1, 10, 5, 1, 1));
        yes(x.strange(1, 11, true));
        yes(x.strange(1, 30, true));
        yes(x.step(1, 4));
        yes(x.step(1, 2));
        feastOn(1, 0, 3, 4, 5);
        yes(x.model(1, true, 7));
        int[] want = {5, 4, 2, 2, 1, 7, 1};
        for (int what = 0; what <= 6; what++) {
            gives(want[what], x.told(1, what));
            gives(0, x.told(0, what));
        }
        for (int bad : new int[] {LEAST, -1, 7, MOST}) {
            none(2, x.told(1, bad));
            none(1, x.told(4, bad));
        }
        none(1, x.told(-1, 0));
    }

    private static void model() {
        begin(9);
        for (int period : new int[] {0, 2, 3, 4, 5, 6, 7}) {
            yes(x.model(3, period % 2 == 0, period));
            gives(period, x.told(3, 5));
            gives(period % 2 == 0 ? 1 : 0, x.told(3, 6));
        }
        for (int bad : new int[] {LEAST, -1, 1, 8, MOST}) {
            no(2, x.model(3, true, bad));
            no(1, x.model(4, true, bad));
            no(1, x.model(-1, true, bad));
        }
        gives(7, x.told(3, 5));
        gives(0, x.told(3, 6));
        yes(x.step(3, 1));
        feastOn(3, 0, 1);
        yes(x.strange(3, 1, true));
        yes(x.model(3, false, 0));
        gives(1, x.told(3, 3));
        gives(1, x.told(3, 4));
        gives(1, x.told(3, 2));
    }

    private static void step() {
        begin(10);
        yes(x.step(0, 39));
        no(4, x.step(0, 39));
        yes(x.step(0, 1));
        no(2, x.step(0, 0));
        gives(2, x.told(0, 3));
        yes(x.step(0, 20));
        no(3, x.step(0, 21));
        no(3, x.step(0, 20));
        no(2, x.step(0, 0));
        no(1, x.step(0, -1));
        no(1, x.step(0, 40));
        no(1, x.step(4, 0));
        no(1, x.step(-1, 1));
        gives(3, x.told(0, 3));
        gives(0, x.told(1, 3));
    }

    private static void unstep() {
        begin(11);
        yes(x.step(0, 39));
        yes(x.step(0, 1));
        no(5, x.unstep(0, 0));
        no(5, x.unstep(0, 2));
        no(5, x.unstep(1, 1));
        no(1, x.unstep(0, -1));
        no(1, x.unstep(0, 40));
        no(1, x.unstep(4, 1));
        no(1, x.unstep(-1, 1));
        gives(2, x.told(0, 3));
        yes(x.unstep(0, 1));
        no(5, x.unstep(0, 1));
        yes(x.unstep(0, 39));
        gives(0, x.told(0, 3));
        yes(x.step(0, 1));
    }

    private static void feast() {
        begin(12);
        gives(0, x.feast(3));
        gives(1, x.feast(3));
        none(3, x.feast(3));
        gives(2, x.told(3, 4));
        gives(0, x.feast(0));
        none(1, x.feast(4));
        none(1, x.feast(-1));
        // A new feast has no ticks, also where one was before.
        for (int tick = 0; tick < 8; tick++) {
            yes(x.on(3, 0, tick));
        }
        yes(x.plain(3));
        gives(0, x.feast(3));
        for (int tick = 0; tick < 8; tick++) {
            yes(x.on(3, 0, tick));
        }
    }

    private static void on() {
        begin(13);
        no(5, x.on(0, 0, 0));
        gives(0, x.feast(0));
        no(5, x.on(0, 1, 0));
        no(5, x.on(0, -1, 0));
        no(5, x.on(0, LEAST, 0));
        no(5, x.on(0, MOST, 0));
        yes(x.on(0, 0, 39));
        yes(x.on(0, 0, 0));
        no(4, x.on(0, 0, 0));
        for (int tick = 10; tick < 16; tick++) {
            yes(x.on(0, 0, tick));
        }
        no(3, x.on(0, 0, 16));
        no(3, x.on(0, 0, 0));
        no(5, x.on(0, 1, 0));
        no(1, x.on(0, 0, -1));
        no(1, x.on(0, 1, 40));
        no(1, x.on(4, 0, 0));
        no(1, x.on(-1, 0, 0));
        gives(1, x.feast(0));
        yes(x.on(0, 1, 0));
    }

    private static void plain() {
        begin(14);
        yes(x.put(2, 0, 4));
        yes(x.model(2, true, 3));
        yes(x.strange(2, 9, true));
        yes(x.step(2, 1));
        yes(x.step(2, 5));
        feastOn(2, 0, 1);
        feastOn(2, 1, 2);
        yes(x.step(1, 1));
        no(1, x.plain(4));
        no(1, x.plain(-1));
        gives(2, x.told(2, 3));
        yes(x.plain(2));
        int[] want = {1, 1, 1, 0, 0, 3, 1};
        for (int what = 0; what <= 6; what++) {
            gives(want[what], x.told(2, what));
        }
        gives(1, x.told(1, 3));
        no(5, x.unstep(2, 1));
        no(5, x.on(2, 0, 1));
        yes(x.plain(2));
    }

    private static void strange() {
        begin(15);
        no(4, x.strange(0, 0, false));
        yes(x.strange(0, 0, true));
        no(4, x.strange(0, 0, true));
        yes(x.strange(0, 39, true));
        gives(2, x.told(0, 2));
        yes(x.put(0, 0, 8));
        gives(0, x.told(0, 1));
        none(6, x.part(0, 0));
        yes(x.strange(0, 0, false));
        gives(1, x.told(0, 1));
        tells("8/1", x.part(0, 0));
        no(4, x.strange(0, 0, false));
        no(1, x.strange(0, -1, true));
        no(1, x.strange(0, 40, true));
        no(1, x.strange(4, 0, true));
        no(1, x.strange(-1, 0, false));
    }

    private static void isStrange() {
        begin(16);
        gives(0, x.isStrange(0, 0));
        yes(x.strange(0, 39, true));
        gives(1, x.isStrange(0, 39));
        gives(0, x.isStrange(1, 39));
        gives(0, x.isStrange(0, 38));
        none(1, x.isStrange(0, -1));
        none(1, x.isStrange(0, 40));
        none(1, x.isStrange(4, 0));
        none(1, x.isStrange(-1, 0));
    }

    private static void part() {
        begin(17);
        none(6, x.part(0, 0));
        yes(x.put(0, 39, -3));
        tells("-3/1", x.part(0, 0));
        tells("0/1", x.part(0, 1));
        tells("0/1", x.part(0, 2));
        yes(x.model(0, true, 0));
        none(6, x.part(0, 0));
        yes(x.put(0, 36, 4));
        tells("88/1", x.part(0, 0));
        tells("-7/3", x.part(0, 1));
        tells("0/1", x.part(0, 2));
        yes(x.put(0, 37, 0));
        tells("83/1", x.part(0, 0));
        tells("-31/14", x.part(0, 1));
        tells("25/14", x.part(0, 2));
        none(2, x.part(0, -1));
        none(2, x.part(0, 3));
        none(1, x.part(4, 3));
        none(1, x.part(-1, 0));
        none(2, x.part(1, 3));
        // LEVEL is the trend's, without the season: two places of unlike many ticks.
        begin(17);
        numbers(1, 1, 5, 3);
        yes(x.model(1, false, 2));
        tells("7/2", x.part(1, 0));
        tells("2/1", x.part(1, 2));
    }

    private static void stepBy() {
        begin(18);
        numbers(0, 1, 2, 4, 8, 16);
        none(5, x.stepBy(0, 0));
        yes(x.step(0, 4));
        yes(x.step(0, 2));
        yes(x.step(0, 3));
        tells("5/2", x.stepBy(0, 0));
        tells("4/1", x.stepBy(0, 1));
        tells("8/1", x.stepBy(0, 2));
        none(5, x.stepBy(0, 3));
        none(5, x.stepBy(0, -1));
        none(5, x.stepBy(0, LEAST));
        none(5, x.stepBy(0, MOST));
        none(1, x.stepBy(4, 0));
        none(1, x.stepBy(-1, 9));
        yes(x.unstep(0, 3));
        tells("9/2", x.stepBy(0, 0));
        tells("10/1", x.stepBy(0, 1));
        none(5, x.stepBy(0, 2));
        yes(x.model(0, true, 0));
        yes(x.step(0, 30));
        none(6, x.stepBy(0, 0));
        none(5, x.stepBy(0, 3));
    }

    private static void feastBy() {
        begin(19);
        numbers(0, 1, 7, 1, 10, 1, 16);
        none(5, x.feastBy(0, 0));
        feastOn(0, 0, 1, 5);
        tells("33/4", x.feastBy(0, 0));
        feastOn(0, 1);
        none(6, x.feastBy(0, 0));
        none(6, x.feastBy(0, 1));
        yes(x.on(0, 1, 3));
        yes(x.on(0, 1, 5));
        tells("6/1", x.feastBy(0, 0));
        tells("9/1", x.feastBy(0, 1));
        yes(x.model(0, true, 0));
        tells("6/1", x.feastBy(0, 0));
        yes(x.step(0, 2));
        tells("9/1", x.feastBy(0, 1));
        none(5, x.feastBy(0, 2));
        none(5, x.feastBy(0, -1));
        none(5, x.feastBy(0, LEAST));
        none(5, x.feastBy(0, MOST));
        none(1, x.feastBy(4, 0));
        none(1, x.feastBy(-1, 5));
    }

    private static void season() {
        begin(20);
        numbers(0, 1, 2, 6, 1, 2, 6, 4);
        none(5, x.season(0, 0));
        yes(x.model(0, false, 3));
        tells("-4/3", x.season(0, 0));
        tells("-4/3", x.season(0, 1));
        tells("8/3", x.season(0, 2));
        none(5, x.season(0, 3));
        none(5, x.season(0, -1));
        none(5, x.season(0, LEAST));
        none(5, x.season(0, MOST));
        none(1, x.season(4, 0));
        none(1, x.season(-1, 0));
        // A place for each of the numbers, whose mean is 22/7.
        yes(x.model(0, false, 7));
        tells("-15/7", x.season(0, 0));
        tells("20/7", x.season(0, 5));
        tells("6/7", x.season(0, 6));
        yes(x.gap(0, 6));
        none(6, x.season(0, 0));
        none(5, x.season(0, 7));
    }

    private static void at() {
        begin(21);
        none(6, x.at(0, 0, 0));
        none(2, x.at(0, 0, 4));
        none(2, x.at(0, 79, -1));
        none(1, x.at(0, 80, 4));
        none(1, x.at(0, -1, 0));
        none(1, x.at(4, 0, 0));
        none(1, x.at(-1, 0, 0));
        // 100 and 3 a tick, 10 less from tick 4 on, 2 0 -2 by season, 7 on the feast.
        int[] season = {2, 0, -2};
        for (int tick = 0; tick < 12; tick++) {
            int feast = tick == 2 || tick == 9 ? 7 : 0;
            yes(x.put(0, tick, 100 + 3 * tick - (tick >= 4 ? 10 : 0) + season[tick % 3] + feast));
        }
        yes(x.model(0, true, 3));
        yes(x.step(0, 4));
        feastOn(0, 0, 2, 9, 30);
        tells("0/1", x.part(0, 2));
        tells("100/1", x.at(0, 0, 0));
        tells("109/1", x.at(0, 3, 0));
        tells("102/1", x.at(0, 4, 0));
        tells("327/1", x.at(0, 79, 0));
        tells("2/1", x.at(0, 0, 1));
        tells("0/1", x.at(0, 79, 1));
        tells("-2/1", x.at(0, 77, 1));
        tells("7/1", x.at(0, 2, 2));
        tells("7/1", x.at(0, 30, 2));
        tells("0/1", x.at(0, 3, 2));
        tells("0/1", x.at(0, 42, 2));
        tells("0/1", x.at(0, 70, 2));
        tells("111/1", x.at(0, 2, 3));
        tells("209/1", x.at(0, 39, 3));
        tells("210/1", x.at(0, 40, 3));
        tells("327/1", x.at(0, 79, 3));
        none(1, x.at(0, 80, 0));
        yes(x.model(0, true, 0));
        tells("0/1", x.at(0, 5, 1));
        yes(x.model(1, false, 2));
        none(6, x.at(1, 79, 3));
    }

    private static void rest() {
        begin(22);
        none(7, x.rest(0, 0));
        numbers(0, 1, 2, 6);
        tells("-2/1", x.rest(0, 0));
        tells("3/1", x.rest(0, 2));
        yes(x.put(0, 39, 100));
        yes(x.strange(0, 39, true));
        tells("97/1", x.rest(0, 39));
        yes(x.model(0, true, 0));
        tells("1/2", x.rest(0, 0));
        tells("-1/1", x.rest(0, 1));
        tells("3/1", x.at(0, 1, 3));
        none(7, x.rest(0, 3));
        yes(x.step(0, 30));
        none(6, x.rest(0, 0));
        none(6, x.rest(0, 39));
        none(7, x.rest(0, 3));
        none(1, x.rest(0, 40));
        none(1, x.rest(0, -1));
        none(1, x.rest(4, 0));
        none(1, x.rest(-1, 0));
    }

    private static void where() {
        begin(23);
        none(8, x.where(0));
        none(1, x.where(4));
        none(1, x.where(-1));
        numbers(0, 3);
        none(8, x.where(0));
        numbers(0, 3, 3);
        gives(1, x.where(0));
        numbers(0, 3, 3, 9, 9, 9);
        gives(2, x.where(0));
        gives(0, x.told(0, 3));
        yes(x.step(0, 2));
        gives(1, x.where(0));
        yes(x.step(0, 1));
        gives(3, x.where(0));
        yes(x.step(0, 39));
        none(8, x.where(0));
        yes(x.unstep(0, 39));
        yes(x.step(0, 3));
        none(8, x.where(0));
        whereWithGaps();
    }

    private static void whereWithGaps() {
        begin(23);
        yes(x.put(0, 10, 4));
        yes(x.put(0, 20, 4));
        yes(x.put(0, 39, 8));
        gives(21, x.where(0));
        yes(x.put(0, 15, 8));
        yes(x.strange(0, 15, true));
        gives(21, x.where(0));
        yes(x.put(0, 20, 8));
        gives(11, x.where(0));
        yes(x.step(0, 11));
        gives(21, x.where(0));
        yes(x.step(0, 25));
        none(8, x.where(0));
        // The least cost with a line is another one than without.
        begin(23);
        numbers(1, 0, 3, 4, 5, 6, 7, 8, 9);
        gives(3, x.where(1));
        yes(x.model(1, true, 0));
        gives(1, x.where(1));
        // The last tick alone is behind the step.
        begin(23);
        yes(x.fill(2, 0, 40, 1, 0));
        yes(x.put(2, 39, 2));
        gives(39, x.where(2));
    }

    private static void rounds() {
        begin(24);
        none(8, x.rounds(0, 1, 1));
        for (int bad : new int[] {LEAST, -1, 0, 1001, MOST}) {
            none(2, x.rounds(0, bad, 1));
            none(2, x.rounds(0, 1, bad));
            none(1, x.rounds(4, bad, bad));
        }
        none(1, x.rounds(-1, 1, 1));
        numbers(0, 0, 0, 0, 0, 12, 3);
        // Means 5/2: sizes 5/2 four times, 19/2, 1/2; the middle 5/2, and 19/2 is 19/5 of it.
        gives(0, x.rounds(0, 19, 5));
        gives(0, x.rounds(0, 1000, 1));
        gives(2, x.rounds(0, 379, 100));
        gives(1, x.isStrange(0, 4));
        gives(1, x.isStrange(0, 5));
        yes(x.strange(0, 20, true));
        gives(2, x.rounds(0, 1, 1));
        gives(0, x.isStrange(0, 20));
        // An even many: the greater of the two in the middle, 3 of the sizes 3 1 1 3.
        begin(24);
        numbers(0, 0, 2, 4, 6);
        gives(0, x.rounds(0, 1, 1));
        gives(0, x.rounds(0, 999, 999));
        numbers(1, 1, 1, 1, 1);
        gives(0, x.rounds(1, 1, 1000));
        // Of the sizes 3 1 4 2 0 the third is the middle: that of tick 3, of tick 0, of tick 39.
        numbers(2, 13, 9, 6, 12, 10);
        gives(0, x.rounds(2, 2, 1));
        gives(1, x.rounds(2, 199, 100));
        gives(1, x.isStrange(2, 2));
        numbers(2, 12, 9, 6, 13, 10);
        gives(0, x.rounds(2, 2, 1));
        yes(x.gap(2, 0));
        yes(x.put(2, 39, 12));
        gives(0, x.rounds(2, 2, 1));
        // All that are counted go at once: OPEN in the second round, and all is as before.
        yes(x.strange(0, 1, true));
        yes(x.strange(0, 30, true));
        none(6, x.rounds(0, 1, 1000));
        gives(2, x.told(0, 2));
        gives(1, x.isStrange(0, 1));
        gives(1, x.isStrange(0, 30));
        yes(x.model(0, true, 7));
        none(6, x.rounds(0, 1, 1));
        gives(2, x.told(0, 2));
        // Of one number the rest is 0; it was a stranger before.
        yes(x.put(3, 3, 1));
        yes(x.strange(3, 3, true));
        gives(0, x.rounds(3, 1, 1));
        gives(0, x.isStrange(3, 3));
    }

    private static void roundsThatEnd() {
        begin(24);
        // Each round finds but the greatest of these, so the fifth round ends them.
        numbers(0, 0, 0, 0, 0, 0, 0, 0, 0, 0, 0, 0, 0, 0, 0, 0, 0, 0, 0, 0, 0, 0, 0, 0, 0, 0, 0, 0, 0, 0, 0,
            10, 40, 150, 500, 1900, 7000, 2);
        gives(5, x.rounds(0, 10, 1));
        gives(0, x.isStrange(0, 30));
        gives(1, x.isStrange(0, 31));
        gives(1, x.isStrange(0, 35));
        gives(0, x.isStrange(0, 36));
        gives(32, x.told(0, 1));
    }

    private static void pull() {
        begin(25);
        none(7, x.pull(0, 0, 0));
        numbers(0, 5, -5, 9);
        tells("1/3", x.pull(0, 0, 0));
        tells("1/3", x.pull(0, 2, 79));
        yes(x.model(0, true, 0));
        tells("5/6", x.pull(0, 0, 0));
        tells("1/3", x.pull(0, 1, 79));
        tells("-1/6", x.pull(0, 0, 2));
        tells("-116/3", x.pull(0, 0, 79));
        yes(x.put(0, 0, 10000));
        tells("5/6", x.pull(0, 0, 0));
        yes(x.put(0, 39, 1));
        yes(x.strange(0, 39, true));
        none(7, x.pull(0, 39, 0));
        none(7, x.pull(0, 38, 0));
        none(1, x.pull(0, 40, 0));
        none(1, x.pull(0, -1, 0));
        none(1, x.pull(0, 0, 80));
        none(1, x.pull(0, 38, -1));
        none(1, x.pull(4, 0, 0));
        none(1, x.pull(-1, 0, 0));
        feastOn(0, 0, 1);
        tells("1/1", x.pull(0, 1, 1));
        tells("0/1", x.pull(0, 1, 0));
        yes(x.step(0, 20));
        none(6, x.pull(0, 0, 0));
        none(7, x.pull(0, 38, 0));
        yes(x.strange(0, 39, false));
        tells("1/1", x.pull(0, 39, 39));
    }

    private static void right() {
        begin(26);
        yes(x.put(0, 0, 10));
        yes(x.put(1, 0, 20));
        yes(x.put(2, 0, 30));
        none(6, x.right(0, 1, 2, 3, 0, 0));
        none(6, x.right(3, 1, 2, 0, 0, 0));
        none(6, x.right(0, 3, NONE, 1, 0, 0));
        none(6, x.right(0, 1, 3, 2, 0, 0));
        tells("10/1", x.right(0, 1, NONE, 2, 0, 0));
        tells("20/1", x.right(0, 1, NONE, 2, 1, 79));
        yes(x.put(3, 5, 70));
        tells("40/3", x.right(0, 1, 2, 3, 0, 0));
        tells("70/3", x.right(0, 1, 2, 3, 1, 40));
        tells("100/3", x.right(0, 1, 2, 3, 2, 79));
        tells("-50/3", x.right(2, 1, 3, 0, 1, 79));
        tells("30/1", x.right(1, 2, NONE, 3, 0, 1));
        tells("30/1", x.right(3, 1, NONE, 0, 0, 0));
        tells("-20/1", x.right(3, 1, NONE, 0, 1, 0));
        // Row 0 foretells 10 and the tick.
        yes(x.put(0, 1, 11));
        yes(x.model(0, true, 0));
        tells("25/2", x.right(0, 1, NONE, 2, 0, 5));
        tells("35/2", x.right(0, 1, NONE, 2, 1, 5));
        tells("139/2", x.right(0, 1, NONE, 3, 0, 79));
        rightWrong();
    }

    private static void rightWrong() {
        for (int bad : new int[] {LEAST, -2, 4, MOST}) {
            none(1, x.right(bad, 1, 2, 3, 0, 0));
            none(1, x.right(0, bad, 2, 3, 0, 0));
            none(1, x.right(0, 1, bad, 3, 0, 0));
            none(1, x.right(0, 1, 2, bad, 0, 0));
            none(1, x.right(0, 1, 2, 3, bad, 0));
        }
        none(1, x.right(NONE, 1, 2, 3, 0, 0));
        none(1, x.right(0, NONE, 2, 3, 0, 0));
        none(1, x.right(0, 1, 2, NONE, 0, 0));
        none(1, x.right(0, 1, NONE, NONE, 0, 0));
        none(1, x.right(0, 1, 2, 3, 3, 0));
        none(1, x.right(0, 1, 2, 3, -1, 0));
        none(1, x.right(0, 1, NONE, 3, 2, 0));
        none(1, x.right(0, 1, 2, 3, 0, 80));
        none(1, x.right(0, 1, 2, 3, 0, -1));
        none(1, x.right(0, 0, 2, 3, 0, 0));
        none(1, x.right(0, 1, 0, 3, 0, 0));
        none(1, x.right(0, 1, 1, 3, 0, 0));
        none(1, x.right(0, 1, 2, 0, 0, 0));
        none(1, x.right(0, 1, 2, 1, 0, 0));
        none(1, x.right(0, 1, 2, 2, 0, 0));
        yes(x.gap(1, 0));
        none(6, x.right(0, 1, 2, 3, 0, 0));
        none(1, x.right(0, 1, 2, 3, 0, 80));
    }
}
