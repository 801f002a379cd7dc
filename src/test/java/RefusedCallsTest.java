import java.util.ArrayList;
import java.util.List;

/**
 * "Refusals, the first that fits. They change nothing (FINDINGS but count() 8)": of two objects made alike one
 * gets a call that is refused; behind it both tell the same, whatever they are asked.
 */
public final class RefusedCallsTest {
    private static final int BAD = -2, NOT = -3, FULL = -4;
    private static final int NULL = -11, INDEX = -12, CAST = -13, STORE = -14, SIZE = -15;
    private static final int LEAST = Bench.LEAST, MOST = Bench.MOST;
    private static final int LATEST = 4;
    private static final int[] NO_TEXTS = {-1, 5, LEAST, MOST}, NO_BYTES = {-1, 256, LEAST, MOST};
    private static final int[] NO_WAYS = {-1, 12, LEAST, MOST}, NO_SETS = {-1, 256, LEAST, MOST};
    private static final int[] NO_FORMS = {-1, 3, LEAST, MOST}, NO_WHATS = {-1, 3, LEAST, MOST};
    private static final Checks checks = new Checks();

    private interface Call {
        long of(NewOrBack it);
    }

    private static boolean isLarge;

    /** A ring of four ways, or seven ways and all texts and sights full; sheets 0, 1 and 3; a finding. */
    private static NewOrBack made() {
        NewOrBack it = Bench.made(Bench.RING, "ab", "abcd", "dcx", "");
        it.home(1, 1);
        it.home(3, 2);
        Bench.see(it, "a1 b2");
        if (isLarge) {
            Bench.retype(it, 0, "011;011;011;011;121;231;341;;;;;;;;;;;;;;;;;;;;;;;;;;;;;;;;;");
            Bench.retype(it, 1, "bbbbbbbbbbbbbbbbbbbbbbbb");
            Bench.see(it, "a1 e2 f3 g4");
        }
        Bench.fill(it, 0, 0, 3, 2, 1);
        Bench.fill(it, 1, 2, MOST, 300);
        it.sheet(3, 1, 0);
        it.copy(0, 0, 1, 0, 1);
        return it;
    }

    /** All that an object tells; what tells it last changes it. */
    private static List<Long> told(NewOrBack it) {
        List<Long> told = new ArrayList<>();
        told.add((long) it.count(8));
        told.add(it.digest());
        for (int s = 0; s < 4; s++) {
            for (int form = 0; form < 3; form++) {
                for (int i = 0, item = 0; i < 6 && item != LEAST; i++) {
                    item = it.get(s, form, i);
                    told.add((long) item);
                }
                told.add((long) it.count(8));
            }
        }
        for (int walker = 0; walker < 4; walker++) {
            told.add((long) it.wipe(walker + 1));
            told.add((long) it.home(walker, 0));
        }
        told.add((long) it.wipe(0));
        Bench.type(it, 0, "011;121;231;341;451;561");
        told.add((long) it.cameIn());
        told.add((long) it.forget());
        return told;
    }

    private static void refused(String call, Call asked, long answer, int latest) {
        NewOrBack it = made();
        NewOrBack like = made();
        checks.about(call + (isLarge ? " where all is full" : ""));
        checks.due("the answer", asked.of(it), answer);
        List<Long> got = told(it);
        List<Long> want = told(like);
        checks.due("count(8)", got.get(0), latest);
        for (int i = 1; i < want.size(); i++) {
            checks.due("what it tells, the " + i + ".", got.get(i), want.get(i));
        }
    }

    private static void bad(String call, Call asked) {
        refused(call, asked, BAD, LATEST);
    }

    private static void finding(String call, Call asked, int answer) {
        refused(call, asked, answer, -10 - answer);
    }

    private static void badTextsAndBytes() {
        for (int n : NO_TEXTS) {
            bad("type(" + n + ", 97)", it -> it.type(n, 97));
            bad("wipe(" + n + ")", it -> it.wipe(n));
        }
        for (int n : NO_BYTES) {
            bad("type(1, " + n + ")", it -> it.type(1, n));
        }
    }

    private static void badWalkers() {
        for (int n : Bench.NO_WALKERS) {
            bad("home(" + n + ", 1)", it -> it.home(n, 1));
            bad("read(0, " + n + ")", it -> it.read(0, n));
            bad("judged(" + n + ")", it -> it.judged(n));
            bad("place(" + n + ")", it -> it.place(n));
            bad("open(" + n + ", 0)", it -> it.open(n, 0));
            bad("gone(" + n + ")", it -> it.gone(n));
            bad("spent(" + n + ")", it -> it.spent(n));
            bad("may(" + n + ", 0)", it -> it.may(n, 0));
            bad("soon(" + n + ", 0)", it -> it.soon(n, 0));
            bad("still(" + n + ")", it -> it.still(n));
            bad("never(" + n + ")", it -> it.never(n));
            bad("keeps(" + n + ", 0, 0)", it -> it.keeps(n, 0, 0));
            bad("errands(" + n + ", 0, 0)", it -> it.errands(n, 0, 0));
            bad("meeting(" + n + ", 0, 0)", it -> it.meeting(n, 0, 0));
            bad("meeting(0, " + n + ", 0)", it -> it.meeting(0, n, 0));
            bad("lent(" + n + ", 0)", it -> it.lent(n, 0));
            bad("lent(0, " + n + ")", it -> it.lent(0, n));
            bad("lost(" + n + ", 0)", it -> it.lost(n, 0));
            bad("thread(" + n + ", 0)", it -> it.thread(n, 0));
            bad("safe(" + n + ", 0)", it -> it.safe(n, 0));
            bad("write(" + n + ", 0)", it -> it.write(n, 0));
        }
    }

    private static void badWaysAndPlaces() {
        for (int n : NO_WAYS) {
            bad("way(" + n + ", 0)", it -> it.way(n, 0));
            bad("may(0, " + n + ")", it -> it.may(0, n));
            bad("keeps(0, " + n + ", 0)", it -> it.keeps(0, n, 0));
            bad("seen(" + n + ", 0)", it -> it.seen(n, 0));
        }
        for (int n : Bench.NO_PLACES) {
            bad("home(0, " + n + ")", it -> it.home(0, n));
            bad("soon(0, " + n + ")", it -> it.soon(0, n));
            bad("seen(0, " + n + ")", it -> it.seen(0, n));
            bad("safe(0, " + n + ")", it -> it.safe(0, n));
        }
        for (int n : NO_SETS) {
            bad("keeps(0, 0, " + n + ")", it -> it.keeps(0, 0, n));
            bad("errands(0, " + n + ", 0)", it -> it.errands(0, n, 0));
        }
        for (int n : new int[] {-1, 4096, LEAST, MOST}) {
            bad("lost(0, " + n + ")", it -> it.lost(0, n));
        }
    }

    private static void badParts() {
        for (int n : NO_WHATS) {
            bad("way(0, " + n + ")", it -> it.way(0, n));
            bad("meeting(0, 1, " + n + ")", it -> it.meeting(0, 1, n));
            bad("thread(0, " + n + ")", it -> it.thread(0, n));
        }
        for (int n : new int[] {-2, LEAST}) {
            bad("open(0, " + n + ")", it -> it.open(0, n));
            bad("errands(0, 0, " + n + ")", it -> it.errands(0, 0, n));
        }
        bad("meeting(0, 1, 2)", it -> it.meeting(0, 1, 2));
        bad("thread(0, 2)", it -> it.thread(0, 2));
        bad("meeting(2, 2, 0)", it -> it.meeting(2, 2, 0));
        bad("lent(2, 2)", it -> it.lent(2, 2));
        for (int n : new int[] {-1, 9, LEAST, MOST}) {
            bad("count(" + n + ")", it -> it.count(n));
        }
    }

    private static void badSheets() {
        for (int n : Bench.NO_SHEETS) {
            bad("read(" + n + ", 0)", it -> it.read(n, 0));
            bad("sheet(" + n + ", 0, 1)", it -> it.sheet(n, 0, 1));
            bad("lose(" + n + ")", it -> it.lose(n));
            bad("put(" + n + ", 0, 0, 9)", it -> it.put(n, 0, 0, 9));
            refused("get(" + n + ", 0, 0)", it -> it.get(n, 0, 0), LEAST, LATEST);
            bad("copy(" + n + ", 0, 0, 0, 1)", it -> it.copy(n, 0, 0, 0, 1));
            bad("copy(0, 0, " + n + ", 0, 1)", it -> it.copy(0, 0, n, 0, 1));
            bad("write(0, " + n + ")", it -> it.write(0, n));
        }
        for (int n : NO_FORMS) {
            bad("sheet(0, " + n + ", 1)", it -> it.sheet(0, n, 1));
            bad("put(0, " + n + ", 0, 9)", it -> it.put(0, n, 0, 9));
            refused("get(0, " + n + ", 0)", it -> it.get(0, n, 0), LEAST, LATEST);
        }
        for (int n : new int[] {49, MOST}) {
            bad("sheet(0, 0, " + n + ")", it -> it.sheet(0, 0, n));
        }
    }

    private static void findings() {
        finding("read(2, 0)", it -> it.read(2, 0), NULL);
        finding("lose(2)", it -> it.lose(2), NULL);
        finding("put(2, 0, 0, 9)", it -> it.put(2, 0, 0, 9), NULL);
        refused("get(2, 0, 0)", it -> it.get(2, 0, 0), LEAST, 1);
        finding("copy(2, 0, 0, 0, 1)", it -> it.copy(2, 0, 0, 0, 1), NULL);
        finding("copy(0, 0, 2, 0, 1)", it -> it.copy(0, 0, 2, 0, 1), NULL);
        finding("write(0, 2)", it -> it.write(0, 2), NULL);
        finding("put(0, 0, 3, 9)", it -> it.put(0, 0, 3, 9), INDEX);
        finding("put(0, 0, -1, 9)", it -> it.put(0, 0, -1, 9), INDEX);
        refused("get(0, 0, 3)", it -> it.get(0, 0, 3), LEAST, 2);
        finding("copy(0, 2, 0, 0, 2)", it -> it.copy(0, 2, 0, 0, 2), INDEX);
        finding("copy(0, 0, 0, 2, 2)", it -> it.copy(0, 0, 0, 2, 2), INDEX);
        finding("put(0, 1, 0, 9)", it -> it.put(0, 1, 0, 9), CAST);
        finding("put(1, 0, 0, 9)", it -> it.put(1, 0, 0, 9), CAST);
        refused("get(1, 0, 0)", it -> it.get(1, 0, 0), LEAST, 3);
        finding("copy(0, 0, 1, 0, 2)", it -> it.copy(0, 0, 1, 0, 2), STORE);
        finding("copy(3, 0, 1, 0, 0)", it -> it.copy(3, 0, 1, 0, 0), STORE);
        finding("sheet(0, 0, -1)", it -> it.sheet(0, 0, -1), SIZE);
        finding("sheet(2, 1, LEAST)", it -> it.sheet(2, 1, LEAST), SIZE);
    }

    private static void notAndFull() {
        isLarge = false;
        refused("keeps(0, 0, 0)", it -> it.keeps(0, 0, 0), NOT, LATEST);
        refused("keeps(0, 3, 255)", it -> it.keeps(0, 3, 255), NOT, LATEST);
        isLarge = true;
        refused("type(0, 59)", it -> it.type(0, 59), FULL, LATEST);
        refused("type(1, 97)", it -> it.type(1, 97), FULL, LATEST);
        refused("seen(0, 1)", it -> it.seen(0, 1), FULL, LATEST);
    }

    /** Seven ways need a wood without a fault, so one that is not full. */
    private static void fullOfSevenWays() {
        NewOrBack it = Bench.made("011;011;011;011;121;231;341", "");
        it.sheet(0, 0, 1);
        it.put(0, 1, 0, 0);
        long before = it.digest();
        checks.about("seven ways");
        checks.due("errands(0, 0, 0)", it.errands(0, 0, 0), FULL);
        checks.due("safe(0, 0)", it.safe(0, 0), FULL);
        checks.due("cameIn()", it.cameIn(), FULL);
        checks.due("digest()", it.digest(), before);
        checks.due("count(8)", it.count(8), 3);
        checks.due("get(0, 0, 0)", it.get(0, 0, 0), 0);
    }

    public static void main(String[] args) {
        for (int round = 0; round < 2; round++) {
            isLarge = round == 1;
            badTextsAndBytes();
            badWalkers();
            badWaysAndPlaces();
            badParts();
            badSheets();
            findings();
        }
        notAndFull();
        fullOfSevenWays();
        checks.end();
    }
}
