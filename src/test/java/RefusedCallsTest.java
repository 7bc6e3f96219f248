import java.util.ArrayList;
import java.util.LinkedHashMap;
import java.util.List;
import java.util.Map;
import java.util.function.Consumer;
import java.util.function.Predicate;
import java.util.function.ToIntFunction;

/**
 * "With another STATUS than 0 a call gives NONE, or false, and changes nothing else."
 * Behind each kind of refused call an object is asked all that it can be asked, and answers as
 * one does that never had that call. The same holds behind a question that was answered, but for
 * OUT.
 */
public final class RefusedCallsTest extends Checks {
    private static final List<Consumer<CountedRows>> SCENES =
        List.of(s -> { }, RefusedCallsTest::setUp, RefusedCallsTest::setUpLateOpening);
    private static final int NEW = 0;
    private static final int BUSY = 1;
    private static final int LATE = 2;
    private static final Map<String, Probe> PROBES = new LinkedHashMap<>();
    private static final List<Map<String, List<Integer>>> UNTOUCHED = new ArrayList<>();

    /** Asks an object and notes every answer. */
    private interface Probe {
        void ask(CountedRows s, List<Integer> notes);
    }

    public static void main(String[] args) {
        listProbes();
        for (int scene = 0; scene < SCENES.size(); scene++) {
            UNTOUCHED.add(untouched(scene));
        }
        noSuchRowOrTick(NEW);
        noSuchRowOrTick(BUSY);
        onNew();
        onBusyRows();
        onBusyModels();
        onBusyPartings();
        onBusyRight();
        onLateOpening();
        questionsChangeNothing();
        end();
    }

    // ---- the scenes

    /** ROW 0 is full, 1 has a little of all, 2 is OPEN, 3 has STRANGERS and no number. */
    private static void setUp(CountedRows s) {
        s.fill(0, 0, 40, -10000, 512);
        s.put(0, 3, 10000);
        s.put(0, 17, 0);
        s.model(0, true, 3);
        for (int tick : new int[] {5, 15, 30}) {
            s.step(0, tick);
        }
        s.feast(0);
        s.feast(0);
        for (int k = 0; k < 8; k++) {
            s.on(0, 0, 5 * k);
            s.on(0, 1, 39 - 3 * k);
        }
        s.strange(0, 3, true);
        s.strange(0, 20, true);
        s.fill(1, 0, 5, -7, 3);
        s.put(1, 2, 40);
        s.step(1, 1);
        s.feast(1);
        s.on(1, 0, 2);
        s.on(1, 0, 10);
        s.strange(1, 4, true);
        s.strange(1, 39, true);
        s.fill(2, 10, 5, -3, 7);
        s.model(2, true, 7);
        s.step(2, 11);
        s.step(2, 20);
        s.feast(2);
        s.on(2, 0, 12);
        s.feast(2);
        s.on(2, 1, 39);
        s.strange(2, 12, true);
        s.strange(2, 30, true);
        s.strange(3, 0, true);
        s.strange(3, 39, true);
        s.model(3, false, 2);
        s.at(1, 79, 0);
    }

    /** ROWS 0 and 1 are OPEN in a later round of ROUNDS, 2 is not, and 3 is OPEN now. */
    private static void setUpLateOpening(CountedRows s) {
        s.put(0, 0, 0);
        s.put(0, 1, 2);
        s.strange(0, 1, true);
        s.strange(0, 39, true);
        s.fill(1, 0, 30, 0, 0);
        int[] outliers = {10, 40, 150, 500, 1900, 7000, 100, -100};
        for (int i = 0; i < outliers.length; i++) {
            s.put(1, 30 + i, outliers[i]);
        }
        s.feast(1);
        s.on(1, 0, 36);
        s.on(1, 0, 37);
        s.strange(1, 5, true);
        s.strange(1, 36, true);
        s.strange(1, 38, true);
        s.put(2, 0, -4);
        s.put(3, 0, 9);
        s.step(3, 7);
        s.part(2, 0);
    }

    // ---- the probes

    private static void listProbes() {
        PROBES.put("OUT", RefusedCallsTest::noteOut);
        for (int each = 0; each < 4; each++) {
            int row = each;
            PROBES.put("numbers of " + row, (s, notes) -> askNumbers(s, row, notes));
            PROBES.put("level and season of " + row, (s, notes) -> askLevelAndSeason(s, row, notes));
            PROBES.put("steps and feasts of " + row, (s, notes) -> askStepsAndFeasts(s, row, notes));
            PROBES.put("step ticks of " + row, (s, notes) -> askStepTicks(s, row, notes));
            PROBES.put("even feast ticks of " + row, (s, notes) -> askFeastTicks(s, row, 0, notes));
            PROBES.put("odd feast ticks of " + row, (s, notes) -> askFeastTicks(s, row, 1, notes));
        }
    }

    private static void noteOut(CountedRows s, List<Integer> notes) {
        int now = s.out(0);
        notes.add(now);
        for (int k = 1; now != NONE; k++) {
            now = s.out(k);
            notes.add(now);
        }
    }

    private static void note(CountedRows s, int answer, List<Integer> notes) {
        notes.add(answer);
        notes.add(s.status());
    }

    private static void noteTold(CountedRows s, int answer, List<Integer> notes) {
        note(s, answer, notes);
        if (answer != NONE) {
            noteOut(s, notes);
        }
    }

    private static void askNumbers(CountedRows s, int row, List<Integer> notes) {
        for (int what = 0; what <= 6; what++) {
            note(s, s.told(row, what), notes);
        }
        for (int tick = 0; tick < 40; tick++) {
            note(s, s.number(row, tick), notes);
            note(s, s.isStrange(row, tick), notes);
        }
    }

    private static void askLevelAndSeason(CountedRows s, int row, List<Integer> notes) {
        for (int what = 0; what <= 2; what++) {
            noteTold(s, s.part(row, what), notes);
        }
        for (int place = 0; place < 7; place++) {
            noteTold(s, s.season(row, place), notes);
        }
    }

    private static void askStepsAndFeasts(CountedRows s, int row, List<Integer> notes) {
        for (int k = 0; k < 3; k++) {
            noteTold(s, s.stepBy(row, k), notes);
            noteTold(s, s.feastBy(row, k), notes);
        }
        noteTold(s, s.at(row, 79, 3), notes);
        note(s, s.where(row), notes);
    }

    private static void askStepTicks(CountedRows s, int row, List<Integer> notes) {
        for (int tick = 0; tick < 40; tick++) {
            note(s, bit(s.unstep(row, tick)), notes);
        }
    }

    /** Makes the ROW such that nothing but its FEASTS is left to be seen. */
    private static void askFeastTicks(CountedRows s, int row, int from, List<Integer> notes) {
        for (int tick = 0; tick < 40; tick++) {
            notes.add(bit(s.unstep(row, tick)));
            notes.add(bit(s.strange(row, tick, false)));
        }
        s.model(row, false, 0);
        s.fill(row, 0, 40, 1, 1);
        for (int tick = from; tick < 40; tick += 2) {
            noteTold(s, s.at(row, tick, 2), notes);
        }
    }

    private static Map<String, List<Integer>> untouched(int scene) {
        Map<String, List<Integer>> all = new LinkedHashMap<>();
        for (String name : PROBES.keySet()) {
            fresh();
            SCENES.get(scene).accept(x);
            all.put(name, probe(name));
        }
        return all;
    }

    private static List<Integer> probe(String name) {
        List<Integer> notes = new ArrayList<>();
        PROBES.get(name).ask(x, notes);
        return notes;
    }

    // ---- what is due

    private static void refuses(int scene, int status, Predicate<CountedRows> call) {
        refuses(scene, status, 0, s -> bit(call.test(s)));
    }

    private static void refusesNumber(int scene, int status, ToIntFunction<CountedRows> call) {
        refuses(scene, status, NONE, call);
    }

    private static void refuses(int scene, int status, int refused, ToIntFunction<CountedRows> call) {
        for (String name : PROBES.keySet()) {
            fresh();
            SCENES.get(scene).accept(x);
            due("a call", call.applyAsInt(x), refused);
            due("status", x.status(), status);
            due(name, probe(name), UNTOUCHED.get(scene).get(name));
        }
    }

    private static void answers(int scene, ToIntFunction<CountedRows> question) {
        for (String name : PROBES.keySet()) {
            fresh();
            SCENES.get(scene).accept(x);
            question.applyAsInt(x);
            due("status", x.status(), 0);
            if (!name.equals("OUT")) {
                due(name, probe(name), UNTOUCHED.get(scene).get(name));
            }
        }
    }

    // ---- the refused calls

    /** Every call with a ROW or a TICK that is none: the same on a new object and on a busy one. */
    private static void noSuchRowOrTick(int scene) {
        sentence("changes nothing else: 1 no such ROW, TICK");
        for (int bad : new int[] {LEAST, -1, 4, MOST}) {
            refuses(scene, 1, s -> s.put(bad, 0, 1));
            refuses(scene, 1, s -> s.fill(bad, 0, 40, 1, 0));
            refuses(scene, 1, s -> s.gap(bad, 0));
            refusesNumber(scene, 1, s -> s.number(bad, 0));
            refusesNumber(scene, 1, s -> s.told(bad, 0));
            refuses(scene, 1, s -> s.model(bad, true, 5));
            refuses(scene, 1, s -> s.step(bad, 9));
            refuses(scene, 1, s -> s.unstep(bad, 5));
            refusesNumber(scene, 1, s -> s.feast(bad));
            refuses(scene, 1, s -> s.on(bad, 0, 1));
            refuses(scene, 1, s -> s.plain(bad));
            refuses(scene, 1, s -> s.strange(bad, 7, true));
            refusesNumber(scene, 1, s -> s.isStrange(bad, 0));
            refusesNumber(scene, 1, s -> s.part(bad, 0));
            refusesNumber(scene, 1, s -> s.stepBy(bad, 0));
            refusesNumber(scene, 1, s -> s.feastBy(bad, 0));
            refusesNumber(scene, 1, s -> s.season(bad, 0));
            refusesNumber(scene, 1, s -> s.at(bad, 0, 0));
            refusesNumber(scene, 1, s -> s.rest(bad, 0));
            refusesNumber(scene, 1, s -> s.where(bad));
            refusesNumber(scene, 1, s -> s.rounds(bad, 1, 1));
            refusesNumber(scene, 1, s -> s.pull(bad, 0, 0));
            refusesNumber(scene, 1, s -> s.right(bad, 1, NONE, 3, 0, 0));
        }
        for (int bad : new int[] {LEAST, -1, 40, MOST}) {
            refuses(scene, 1, s -> s.put(0, bad, 1));
            refuses(scene, 1, s -> s.fill(0, bad, 1, 1, 0));
            refuses(scene, 1, s -> s.gap(0, bad));
            refusesNumber(scene, 1, s -> s.number(0, bad));
            refuses(scene, 1, s -> s.step(1, bad));
            refuses(scene, 1, s -> s.unstep(0, bad));
            refuses(scene, 1, s -> s.on(1, 0, bad));
            refuses(scene, 1, s -> s.strange(0, bad, true));
            refuses(scene, 1, s -> s.strange(0, bad, false));
            refusesNumber(scene, 1, s -> s.isStrange(0, bad));
            refusesNumber(scene, 1, s -> s.rest(0, bad));
            refusesNumber(scene, 1, s -> s.pull(0, bad, 0));
        }
        for (int bad : NO_FAR_TICKS) {
            refusesNumber(scene, 1, s -> s.at(0, bad, 3));
            refusesNumber(scene, 1, s -> s.pull(0, 0, bad));
            refusesNumber(scene, 1, s -> s.right(0, 1, NONE, 3, 0, bad));
        }
    }

    private static void onNew() {
        sentence("changes nothing else: a new object, whose OUT is empty");
        refuses(NEW, 2, s -> s.put(0, 0, 10001));
        refuses(NEW, 2, s -> s.fill(0, 0, 40, 10000, 1));
        refuses(NEW, 5, s -> s.gap(0, 0));
        refusesNumber(NEW, 7, s -> s.number(0, 0));
        refusesNumber(NEW, 2, s -> s.told(0, 7));
        refuses(NEW, 2, s -> s.model(0, true, 1));
        refuses(NEW, 2, s -> s.step(0, 0));
        refuses(NEW, 5, s -> s.unstep(0, 1));
        refuses(NEW, 5, s -> s.on(0, 0, 0));
        refuses(NEW, 4, s -> s.strange(0, 0, false));
        refusesNumber(NEW, 2, s -> s.part(0, 3));
        refusesNumber(NEW, 6, s -> s.part(0, 0));
        refusesNumber(NEW, 5, s -> s.stepBy(0, 0));
        refusesNumber(NEW, 5, s -> s.feastBy(0, 0));
        refusesNumber(NEW, 5, s -> s.season(0, 0));
        refusesNumber(NEW, 2, s -> s.at(0, 0, 4));
        refusesNumber(NEW, 6, s -> s.at(0, 79, 3));
        refusesNumber(NEW, 7, s -> s.rest(0, 0));
        refusesNumber(NEW, 8, s -> s.where(0));
        refusesNumber(NEW, 2, s -> s.rounds(0, 0, 1));
        refusesNumber(NEW, 8, s -> s.rounds(0, 1, 1));
        refusesNumber(NEW, 7, s -> s.pull(0, 0, 0));
        refusesNumber(NEW, 6, s -> s.right(0, 1, 2, 3, 0, 0));
    }

    private static void onBusyRows() {
        sentence("changes nothing else: numbers");
        for (int bad : new int[] {LEAST, -10001, 10001, MOST}) {
            refuses(BUSY, 2, s -> s.put(0, 0, bad));
            refuses(BUSY, 2, s -> s.put(1, 20, bad));
            refuses(BUSY, 2, s -> s.fill(1, 20, 1, bad, 0));
            refuses(BUSY, 2, s -> s.fill(1, 20, 2, 0, bad));
        }
        for (int bad : new int[] {LEAST, -1, 0, 41, MOST}) {
            refuses(BUSY, 2, s -> s.fill(0, 0, bad, 1, 0));
        }
        // Those ahead of the TICK or number that can't be stay, too.
        refuses(BUSY, 2, s -> s.fill(0, 1, 40, 1, 0));
        refuses(BUSY, 2, s -> s.fill(1, 39, 2, 1, 0));
        refuses(BUSY, 2, s -> s.fill(0, 0, 3, 9999, 1));
        refuses(BUSY, 2, s -> s.fill(0, 0, 3, 10002, -1));
        refuses(BUSY, 2, s -> s.fill(0, 0, 5, 0, 1 << 30));
        refuses(BUSY, 5, s -> s.gap(1, 5));
        refuses(BUSY, 5, s -> s.gap(1, 39));
        refusesNumber(BUSY, 7, s -> s.number(1, 5));
        refusesNumber(BUSY, 7, s -> s.number(3, 0));
        for (int bad : new int[] {LEAST, -1, 7, MOST}) {
            refusesNumber(BUSY, 2, s -> s.told(0, bad));
        }
    }

    private static void onBusyModels() {
        sentence("changes nothing else: models");
        for (int bad : new int[] {LEAST, -1, 1, 8, MOST}) {
            refuses(BUSY, 2, s -> s.model(0, false, bad));
            refuses(BUSY, 2, s -> s.model(1, true, bad));
        }
        refuses(BUSY, 2, s -> s.step(1, 0));
        refuses(BUSY, 2, s -> s.step(0, 0));
        refuses(BUSY, 3, s -> s.step(0, 39));
        refuses(BUSY, 3, s -> s.step(0, 5));
        refuses(BUSY, 4, s -> s.step(1, 1));
        refuses(BUSY, 4, s -> s.step(2, 20));
        refuses(BUSY, 5, s -> s.unstep(0, 0));
        refuses(BUSY, 5, s -> s.unstep(0, 6));
        refuses(BUSY, 5, s -> s.unstep(3, 1));
        refusesNumber(BUSY, 3, s -> s.feast(0));
        refusesNumber(BUSY, 3, s -> s.feast(2));
        for (int bad : new int[] {LEAST, -1, 1, 2, MOST}) {
            refuses(BUSY, 5, s -> s.on(1, bad, 3));
        }
        refuses(BUSY, 5, s -> s.on(0, 2, 3));
        refuses(BUSY, 5, s -> s.on(3, 0, 3));
        refuses(BUSY, 3, s -> s.on(0, 0, 1));
        refuses(BUSY, 3, s -> s.on(0, 1, 39));
        refuses(BUSY, 4, s -> s.on(1, 0, 2));
        refuses(BUSY, 4, s -> s.on(2, 1, 39));
        refuses(BUSY, 4, s -> s.strange(0, 3, true));
        refuses(BUSY, 4, s -> s.strange(0, 4, false));
        refuses(BUSY, 4, s -> s.strange(3, 39, true));
        refuses(BUSY, 4, s -> s.strange(3, 38, false));
    }

    private static void onBusyPartings() {
        sentence("changes nothing else: partings, OUT included");
        for (int bad : new int[] {LEAST, -1, 4, MOST}) {
            refusesNumber(BUSY, 2, s -> s.part(0, bad));
            refusesNumber(BUSY, 2, s -> s.at(0, 79, bad));
            refusesNumber(BUSY, 5, s -> s.stepBy(0, bad));
            refusesNumber(BUSY, 5, s -> s.feastBy(0, bad));
            refusesNumber(BUSY, 5, s -> s.season(0, bad));
        }
        refusesNumber(BUSY, 2, s -> s.part(0, 3));
        refusesNumber(BUSY, 5, s -> s.stepBy(1, 1));
        refusesNumber(BUSY, 5, s -> s.feastBy(1, 1));
        refusesNumber(BUSY, 5, s -> s.season(0, 3));
        refusesNumber(BUSY, 5, s -> s.season(1, 0));
        for (int what = 0; what <= 3; what++) {
            int good = what;
            refusesNumber(BUSY, 6, s -> s.at(2, 10, good));
            refusesNumber(BUSY, 6, s -> s.part(2, Math.min(good, 2)));
        }
        refusesNumber(BUSY, 6, s -> s.stepBy(2, 0));
        refusesNumber(BUSY, 6, s -> s.feastBy(2, 1));
        refusesNumber(BUSY, 6, s -> s.season(2, 6));
        refusesNumber(BUSY, 7, s -> s.rest(1, 5));
        refusesNumber(BUSY, 7, s -> s.rest(2, 0));
        refusesNumber(BUSY, 6, s -> s.rest(2, 10));
        refusesNumber(BUSY, 6, s -> s.rest(2, 12));
        refusesNumber(BUSY, 8, s -> s.where(0));
        refusesNumber(BUSY, 8, s -> s.where(2));
        refusesNumber(BUSY, 8, s -> s.where(3));
        for (int bad : new int[] {LEAST, 0, 1001, MOST}) {
            refusesNumber(BUSY, 2, s -> s.rounds(0, bad, 1));
            refusesNumber(BUSY, 2, s -> s.rounds(0, 1, bad));
        }
        refusesNumber(BUSY, 8, s -> s.rounds(3, 1, 1));
        refusesNumber(BUSY, 6, s -> s.rounds(2, 1, 1));
        refusesNumber(BUSY, 7, s -> s.pull(1, 4, 0));
        refusesNumber(BUSY, 7, s -> s.pull(1, 5, 0));
        refusesNumber(BUSY, 7, s -> s.pull(2, 12, 0));
        refusesNumber(BUSY, 6, s -> s.pull(2, 10, 79));
    }

    private static void onBusyRight() {
        sentence("changes nothing else: right");
        refusesNumber(BUSY, 1, s -> s.right(0, 0, NONE, 1, 0, 0));
        refusesNumber(BUSY, 1, s -> s.right(0, 1, 1, 2, 0, 0));
        refusesNumber(BUSY, 1, s -> s.right(0, 1, NONE, 1, 0, 0));
        refusesNumber(BUSY, 1, s -> s.right(0, 1, 4, 2, 0, 0));
        refusesNumber(BUSY, 1, s -> s.right(0, 1, NONE, 2, 2, 0));
        refusesNumber(BUSY, 1, s -> s.right(0, 1, 2, 3, 3, 0));
        refusesNumber(BUSY, 1, s -> s.right(0, 1, 2, 3, -1, 0));
        refusesNumber(BUSY, 6, s -> s.right(0, 1, NONE, 2, 0, 0));
        refusesNumber(BUSY, 6, s -> s.right(2, 1, NONE, 0, 1, 79));
        refusesNumber(BUSY, 6, s -> s.right(0, 1, 2, 3, 2, 40));
    }

    private static void onLateOpening() {
        sentence("changes nothing else: OPEN in a later round, or with the last ROW");
        refusesNumber(LATE, 6, s -> s.rounds(0, 1, 1000));
        refusesNumber(LATE, 6, s -> s.rounds(1, 10, 1));
        refusesNumber(LATE, 6, s -> s.right(0, 1, 2, 3, 0, 0));
        refusesNumber(LATE, 6, s -> s.right(0, 2, NONE, 3, 1, 79));
        refusesNumber(LATE, 6, s -> s.right(0, 3, NONE, 2, 1, 79));
        refusesNumber(LATE, 8, s -> s.where(2));
        refusesNumber(LATE, 8, s -> s.where(3));
    }

    // ---- questions

    private static void questionsChangeNothing() {
        sentence("OUT is ..: and no number, MODEL or STRANGER is another then");
        answers(BUSY, s -> s.number(0, 39));
        answers(BUSY, s -> s.told(0, 1));
        answers(BUSY, s -> s.isStrange(0, 3));
        answers(BUSY, s -> s.part(0, 0));
        answers(BUSY, s -> s.part(0, 1));
        answers(BUSY, s -> s.part(0, 2));
        answers(BUSY, s -> s.stepBy(0, 2));
        answers(BUSY, s -> s.feastBy(0, 1));
        answers(BUSY, s -> s.season(0, 2));
        for (int what = 0; what <= 3; what++) {
            int each = what;
            answers(BUSY, s -> s.at(0, 79, each));
        }
        answers(BUSY, s -> s.rest(0, 3));
        answers(BUSY, s -> s.rest(0, 39));
        answers(BUSY, s -> s.where(1));
        answers(BUSY, s -> s.pull(0, 39, 79));
        answers(BUSY, s -> s.pull(0, 0, 0));
        answers(LATE, s -> s.right(0, 1, NONE, 2, 1, 79));
        answers(LATE, s -> s.where(1));
    }
}
