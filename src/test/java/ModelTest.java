import java.util.Random;

/** Random runs of calls (the same ones each time), each answer compared with the model's. */
public final class ModelTest {
    private static final Checks checks = new Checks();
    private static final int[] WILD = {-1, -2, -3, 3, 4, 5, 7, 8, 9, 11, 12, 13, 48, 49, 255, 256, 1 << 12, 1 << 30,
        Integer.MAX_VALUE, Integer.MIN_VALUE};

    private final Random random;
    private final NewOrBack it = new NewOrBack();
    private final Model model;

    private ModelTest(long seed, boolean isSparing) {
        random = new Random(seed);
        model = new Model(isSparing);
        checks.about("run " + seed);
    }

    private void due(String call, long got, long want) {
        checks.due(call, got, want);
    }

    private int upTo(int bound) {
        return random.nextInt(bound);
    }

    /** Most often a number below a bound, now and then one from far off. */
    private int number(int bound) {
        return upTo(40) == 0 ? WILD[upTo(WILD.length)] : upTo(Math.max(bound, 1));
    }

    private void type(int text, int b) {
        due("type(" + text + ", " + b + ")", it.type(text, b), model.type(text, b));
    }

    private void typeWood(int ways, int places, int minutes) {
        for (int way = 0; way < ways; way++) {
            int a = upTo(places);
            int b = (a + 1 + upTo(places - 1)) % places;
            if (way > 0) {
                type(0, ';');
            }
            type(0, '0' + a);
            type(0, '0' + b);
            type(0, '1' + upTo(minutes));
        }
    }

    /** Types steps that may be, as long as there are some; at times another byte. */
    private void typeWalk(int walker, int steps) {
        for (int step = 0; step < steps; step++) {
            int way = upTo(12);
            for (int tries = 0; tries < 24 && model.may(walker, way) <= 0; tries++) {
                way = upTo(12);
            }
            type(walker + 1, upTo(60) == 0 ? upTo(256) : 'a' + way);
        }
    }

    private void ask() {
        int w = number(4);
        int v = number(4);
        int p = number(8);
        int set = upTo(3) == 0 ? number(256) : 1 << upTo(8) | 1 << upTo(8);
        int way = number(model.count(0));
        switch (upTo(22)) {
            case 0 -> due("fault()", it.fault(), model.fault());
            case 1 -> due("way(" + way + ", " + p + ")", it.way(way, p), model.way(way, p));
            case 2 -> due("judged(" + w + ")", it.judged(w), model.judged(w));
            case 3 -> due("place(" + w + ")", it.place(w), model.place(w));
            case 4 -> due("open(" + w + ", " + (p - 2) + ")", it.open(w, p - 2), model.open(w, p - 2));
            case 5 -> due("gone(" + w + ")", it.gone(w), model.gone(w));
            case 6 -> due("spent(" + w + ")", it.spent(w), model.spent(w));
            case 7 -> due("may(" + w + ", " + way + ")", it.may(w, way), model.may(w, way));
            case 8 -> due("soon(" + w + ", " + p + ")", it.soon(w, p), model.soon(w, p));
            case 9 -> due("still(" + w + ")", it.still(w), model.still(w));
            case 10 -> due("never(" + w + ")", it.never(w), model.never(w));
            case 11 -> due("keeps(" + w + ", " + way + ", " + set + ")", it.keeps(w, way, set),
                    model.keeps(w, way, set));
            case 12, 13 -> askErrands(w, set);
            case 14 -> due("meeting(" + w + ", " + v + ", 0)", it.meeting(w, v, 0), model.meeting(w, v, 0));
            case 15 -> due("meeting(" + w + ", " + v + ", 1)", it.meeting(w, v, 1), model.meeting(w, v, 1));
            case 16 -> due("lent(" + w + ", " + v + ")", it.lent(w, v), model.lent(w, v));
            case 17 -> askLost(w);
            case 18, 19 -> askSights();
            default -> due("safe(" + w + ", " + p + ")", it.safe(w, p), model.safe(w, p));
        }
    }

    private void askErrands(int w, int set) {
        int most = upTo(20) == 0 ? 30 : 1 + upTo(4);
        for (int i = -1; i < most; i++) {
            due("errands(" + w + ", " + set + ", " + i + ")", it.errands(w, set, i), model.errands(w, set, i));
        }
    }

    private void askLost(int w) {
        int cut = number(1 << model.count(0));
        due("lost(" + w + ", " + cut + ")", it.lost(w, cut), model.lost(w, cut));
    }

    private void askThread(int w) {
        due("thread(" + w + ", 0)", it.thread(w, 0), model.thread(w, 0));
        due("thread(" + w + ", 1)", it.thread(w, 1), model.thread(w, 1));
    }

    private void askSights() {
        if (upTo(3) == 0) {
            due("forget()", it.forget(), model.forget());
        }
        for (int i = upTo(3); i >= 0; i--) {
            int way = number(model.count(0));
            int place = upTo(20) == 0 ? number(8) : model.way(way, upTo(2));
            due("seen(" + way + ", " + place + ")", it.seen(way, place), model.seen(way, place));
        }
        due("cameIn()", it.cameIn(), model.cameIn());
    }

    private void askSheets() {
        int s = number(4);
        int t = number(4);
        int form = number(3);
        int i = number(10);
        int j = number(10);
        int n = number(12);
        int w = number(4);
        int v = random.nextInt() >> upTo(32);
        switch (upTo(9)) {
            case 0 -> due("sheet(" + s + ", " + form + ", " + n + ")", it.sheet(s, form, n), model.sheet(s, form, n));
            case 1 -> due("lose(" + s + ")", it.lose(s), model.lose(s));
            case 2, 3 -> due("put(" + s + ", " + form + ", " + i + ", " + v + ")", it.put(s, form, i, v),
                    model.put(s, form, i, v));
            case 4, 5 -> due("get(" + s + ", " + form + ", " + i + ")", it.get(s, form, i), model.get(s, form, i));
            case 6 -> due("copy(" + s + ", " + i + ", " + t + ", " + j + ", " + n + ")", it.copy(s, i, t, j, n),
                    model.copy(s, i, t, j, n));
            case 7 -> due("write(" + w + ", " + s + ")", it.write(w, s), model.write(w, s));
            default -> due("read(" + s + ", " + w + ")", it.read(s, w), model.read(s, w));
        }
        due("count(8)", it.count(8), model.count(8));
    }

    private void change() {
        int w = upTo(4);
        switch (upTo(8)) {
            case 0 -> due("home(" + w + ")", it.home(w, 3), model.home(w, 3));
            case 1 -> due("wipe(" + (w + 1) + ")", it.wipe(w + 1), model.wipe(w + 1));
            case 2 -> type(upTo(5), upTo(2) == 0 ? upTo(256) : 'a' + upTo(4));
            case 3 -> typeWalk(w, 1 + upTo(4));
            default -> {
                int walker = number(4);
                int place = number(8);
                due("home(" + walker + ", " + place + ")", it.home(walker, place), model.home(walker, place));
            }
        }
    }

    private void counts() {
        for (int what = -1; what < 10; what++) {
            due("count(" + what + ")", it.count(what), model.count(what));
        }
    }

    private void run(int ways, int asks) {
        int places = 2 + upTo(upTo(2) == 0 ? 3 : 7);
        typeWood(ways, places, upTo(2) == 0 ? 2 : 9);
        for (int w = 0; w < 4; w++) {
            int home = upTo(places);
            due("home(" + w + ", " + home + ")", it.home(w, home), model.home(w, home));
            typeWalk(w, upTo(9));
        }
        for (int i = 0; i < asks; i++) {
            if (upTo(12) == 0) {
                change();
            }
            ask();
        }
    }

    private static void smallWood(long seed) {
        ModelTest run = new ModelTest(seed, false);
        int ways = run.upTo(7);
        run.run(ways, 60);
        run.counts();
        if (ways < 6) {
            run.askThread(run.upTo(4));
        }
        if (ways < 4 || ways < 5 && seed % 4 == 0) {
            run.due("digest()", run.it.digest(), run.model.digest());
        }
    }

    private static void smallWoods() {
        for (long seed = 0; seed < 1500; seed++) {
            smallWood(seed);
        }
        // two rare ones: errands whose least row shows, whether a way gone counts as free still
        smallWood(113647);
        smallWood(123309);
    }

    private static void largeWoods() {
        for (long seed = 10000; seed < 10250; seed++) {
            ModelTest run = new ModelTest(seed, true);
            run.typeWood(7 + run.upTo(6), 6 + run.upTo(3), 9);
            for (int w = 0; w < 4; w++) {
                int home = run.upTo(6);
                run.due("home(" + w + ", " + home + ")", run.it.home(w, home), run.model.home(w, home));
                run.typeWalk(w, 4 + run.upTo(16));
            }
            for (int i = 0; i < 60; i++) {
                run.ask();
            }
            run.counts();
        }
    }

    private static void sheets() {
        for (long seed = 20000; seed < 21000; seed++) {
            ModelTest run = new ModelTest(seed, false);
            run.typeWood(run.upTo(5), 4, 9);
            for (int i = 0; i < 120; i++) {
                run.askSheets();
            }
            for (int w = 0; w < 4; w++) {
                run.due("place(" + w + ")", run.it.place(w), run.model.place(w));
            }
            run.counts();
        }
    }

    /** A text of the wood grows byte by byte, now and then by a wrong one. */
    private static void texts() {
        for (long seed = 30000; seed < 31000; seed++) {
            ModelTest run = new ModelTest(seed, false);
            int wrongs = run.upTo(80);
            for (int i = 0; i < 64; i++) {
                int part = i % 4;
                int right = part == 3 ? ';' : '0' + run.upTo(part == 2 ? 10 : 9);
                run.type(0, run.upTo(wrongs + 2) == 0 ? run.upTo(256) : right);
                run.due("fault()", run.it.fault(), run.model.fault());
                run.due("count(0)", run.it.count(0), run.model.count(0));
                if (run.model.fault() >= 0 && run.model.fault() < i - 1) {
                    run.due("wipe(0)", run.it.wipe(0), run.model.wipe(0));
                    i = -1 + 4 * run.upTo(17);
                }
            }
        }
    }

    public static void main(String[] args) {
        texts();
        sheets();
        smallWoods();
        largeWoods();
        checks.end();
    }
}
