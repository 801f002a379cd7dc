import java.math.BigInteger;
import java.util.ArrayList;
import java.util.List;

/**
 * Edges of sheets, counts and the digest (promises 27 to 34, and what 'Terms' tells of sheets and findings):
 * of each sentence that names one a test of its own.
 */
public final class SheetEdgesTest {
    private static final int NONE = -1, BAD = -2;
    private static final int NULL = -11, INDEX = -12, CAST = -13, STORE = -14, SIZE = -15;
    private static final int LEAST = Bench.LEAST, MOST = Bench.MOST;
    private static final int[] NO_FORMS = {-1, 3, LEAST, MOST};
    private static final Checks checks = new Checks();

    private static void edge(String sentence) {
        checks.about(sentence);
    }

    private static void due(String call, long got, long want) {
        checks.due(call, got, want);
    }

    private static void itemsAre(NewOrBack it, int s, int form, int... items) {
        for (int i = 0; i < items.length; i++) {
            due("get(" + s + ", " + form + ", " + i + ")", it.get(s, form, i), items[i]);
        }
        due("get(" + s + ", " + form + ", " + items.length + ")", it.get(s, form, items.length), LEAST);
        due("count(8)", it.count(8), 2);
    }

    // ---- promise 27

    private static void sheetOf0To48() {
        edge("SHEETS: a row of a FORM of 0 to 48 items; 27 sheet: n; above 48: BAD");
        for (int s = 0; s < 4; s++) {
            for (int form = 0; form < 3; form++) {
                NewOrBack it = new NewOrBack();
                due("sheet(.., 0)", it.sheet(s, form, 0), 0);
                due("get(.., 0) of none", it.get(s, form, 0), LEAST);
                due("sheet(.., 1)", it.sheet(s, form, 1), 1);
                due("sheet(.., 48)", it.sheet(s, form, 48), 48);
                due("put(.., 47, 1)", it.put(s, form, 47, 1), 1);
                due("put(.., 48, 1)", it.put(s, form, 48, 1), INDEX);
                due("sheet(.., 49)", it.sheet(s, form, 49), BAD);
                due("sheet(.., MOST)", it.sheet(s, form, MOST), BAD);
                due("get(.., 47) as it was", it.get(s, form, 47), 1);
                due("lose()", it.lose(s), 48);
            }
        }
    }

    private static void itemsAre0AtFirst() {
        edge("SHEETS: items, 0 at first; 27 sheet: a new row");
        NewOrBack it = new NewOrBack();
        Bench.fill(it, 1, 2, 7, 8, 9);
        it.sheet(1, 2, 3);
        itemsAre(it, 1, 2, 0, 0, 0);
        Bench.fill(it, 1, 2, 7, 8, 9);
        it.sheet(1, 2, 1);
        it.sheet(1, 2, 3);
        itemsAre(it, 1, 2, 0, 0, 0);
        Bench.fill(it, 1, 2, 7, 8, 9);
        it.lose(1);
        it.sheet(1, 0, 3);
        itemsAre(it, 1, 0, 0, 0, 0);
        due("get() of the former FORM", it.get(1, 2, 0), LEAST);
        due("count(8)", it.count(8), 3);
    }

    private static void sheetSize() {
        edge("27 sheet: SIZE: below 0");
        NewOrBack it = new NewOrBack();
        Bench.fill(it, 0, 0, 5);
        due("sheet(0, 1, -1)", it.sheet(0, 1, -1), SIZE);
        due("count(8)", it.count(8), 5);
        due("sheet(0, 1, LEAST)", it.sheet(0, 1, LEAST), SIZE);
        due("get(0, 0, 0) as it was", it.get(0, 0, 0), 5);
        due("sheet(3, 0, -1)", it.sheet(3, 0, -1), SIZE);
        due("lose(3), LOST as it was", it.lose(3), NULL);
    }

    private static void sheetBad() {
        edge("27 sheet: BAD: SHEET, FORM, above 48; ahead of SIZE");
        NewOrBack it = new NewOrBack();
        for (int n : new int[] {0, 1, 49, -1, LEAST}) {
            for (int s : Bench.NO_SHEETS) {
                due("sheet(" + s + ", 0, " + n + ")", it.sheet(s, 0, n), BAD);
            }
            for (int form : NO_FORMS) {
                due("sheet(0, " + form + ", " + n + ")", it.sheet(0, form, n), BAD);
            }
        }
        due("count(8)", it.count(8), 0);
    }

    // ---- promise 28

    private static void loseHowMany() {
        edge("28 lose: it is LOST: how many items it had");
        NewOrBack it = new NewOrBack();
        for (int n : new int[] {0, 1, 47, 48}) {
            it.sheet(2, 1, n);
            due("lose(2) of " + n, it.lose(2), n);
            due("lose(2) again", it.lose(2), NULL);
        }
        it.sheet(0, 0, 2);
        it.sheet(1, 0, 3);
        it.lose(0);
        due("lose(1), another", it.lose(1), 3);
    }

    private static void loseRefused() {
        edge("28 lose: BAD; NULL");
        NewOrBack it = new NewOrBack();
        for (int s : Bench.NO_SHEETS) {
            due("lose(" + s + ")", it.lose(s), BAD);
        }
        due("count(8)", it.count(8), 0);
        for (int s = 0; s < 4; s++) {
            due("lose(" + s + ")", it.lose(s), NULL);
        }
        due("count(8)", it.count(8), 1);
    }

    // ---- promises 29 and 30

    private static void putLowestBits() {
        edge("29 put: the lowest bits that it has, with its sign");
        int[] put = {0, 1, -1, 127, 128, -128, -129, 255, 256, 32767, 32768, -32768, -32769, 65535, 65536, 65537, MOST,
            LEAST, LEAST + 1};
        int[] bytes = {0, 1, -1, 127, -128, -128, 127, -1, 0, -1, 0, 0, -1, -1, 0, 1, -1, 0, 1};
        int[] shorts = {0, 1, -1, 127, 128, -128, -129, 255, 256, 32767, -32768, -32768, 32767, -1, 0, 1, -1, 0, 1};
        for (int i = 0; i < put.length; i++) {
            NewOrBack it = new NewOrBack();
            for (int form = 0; form < 3; form++) {
                it.sheet(form, form, 1);
                due("put(.., " + put[i] + ")", it.put(form, form, 0, put[i]), 1);
            }
            due("get() of bytes behind " + put[i], it.get(0, 0, 0), bytes[i]);
            due("get() of shorts behind " + put[i], it.get(1, 1, 0), shorts[i]);
            due("get() of ints behind " + put[i], it.get(2, 2, 0), put[i]);
        }
    }

    private static void putOneItem() {
        edge("29 put: item i becomes v");
        NewOrBack it = new NewOrBack();
        Bench.fill(it, 0, 2, 1, 2, 3);
        Bench.fill(it, 1, 2, 1, 2, 3);
        due("put(0, 2, 0, 9)", it.put(0, 2, 0, 9), 1);
        due("put(0, 2, 2, 8)", it.put(0, 2, 2, 8), 1);
        itemsAre(it, 0, 2, 9, 2, 8);
        itemsAre(it, 1, 2, 1, 2, 3);
    }

    private static void putRefused() {
        edge("29 put: BAD; NULL; CAST; INDEX, the first that fits");
        NewOrBack it = new NewOrBack();
        it.sheet(0, 1, 2);
        for (int s : Bench.NO_SHEETS) {
            due("put(" + s + ", 0, 0, 0)", it.put(s, 0, 0, 0), BAD);
        }
        for (int form : NO_FORMS) {
            due("put(0, " + form + ", 0, 0)", it.put(0, form, 0, 0), BAD);
            due("put(1, " + form + ", 0, 0), LOST", it.put(1, form, 0, 0), BAD);
        }
        due("count(8)", it.count(8), 0);
        due("put(1, 0, 0, 0)", it.put(1, 0, 0, 0), NULL);
        due("put(1, 2, -1, 0)", it.put(1, 2, -1, 0), NULL);
        due("count(8)", it.count(8), 1);
        due("put(0, 0, 0, 9)", it.put(0, 0, 0, 9), CAST);
        due("put(0, 2, 0, 9)", it.put(0, 2, 0, 9), CAST);
        due("put(0, 2, 2, 9)", it.put(0, 2, 2, 9), CAST);
        due("count(8)", it.count(8), 3);
        for (int i : new int[] {-1, 2, 47, 48, LEAST, MOST}) {
            due("put(0, 1, " + i + ", 9)", it.put(0, 1, i, 9), INDEX);
        }
        due("count(8)", it.count(8), 2);
        itemsAre(it, 0, 1, 0, 0);
        it.sheet(2, 0, 0);
        due("put(2, 0, 0, 0) of none", it.put(2, 0, 0, 0), INDEX);
    }

    private static void getRefused() {
        edge("30 get: BAD: the least int; so are NULL, CAST, INDEX (count() 8 tells)");
        NewOrBack it = new NewOrBack();
        it.sheet(0, 1, 2);
        for (int s : Bench.NO_SHEETS) {
            due("get(" + s + ", 0, 0)", it.get(s, 0, 0), LEAST);
        }
        for (int form : NO_FORMS) {
            due("get(0, " + form + ", 0)", it.get(0, form, 0), LEAST);
            due("get(1, " + form + ", 0), LOST", it.get(1, form, 0), LEAST);
        }
        due("count(8) behind BAD", it.count(8), 0);
        due("get(1, 1, 9)", it.get(1, 1, 9), LEAST);
        due("count(8) behind NULL", it.count(8), 1);
        due("get(0, 2, 9)", it.get(0, 2, 9), LEAST);
        due("count(8) behind CAST", it.count(8), 3);
        for (int i : new int[] {-1, 2, 48, LEAST, MOST}) {
            it.get(1, 1, 0);
            due("get(0, 1, " + i + ")", it.get(0, 1, i), LEAST);
            due("count(8) behind INDEX", it.count(8), 2);
        }
        due("get(0, 1, 1)", it.get(0, 1, 1), 0);
        due("count(8) behind an item", it.count(8), 2);
        it.sheet(2, 2, 1);
        it.put(2, 2, 0, LEAST);
        it.lose(3);
        due("get(2, 2, 0) of the least int", it.get(2, 2, 0), LEAST);
        due("count(8) behind the least int", it.count(8), 1);
    }

    // ---- promise 31

    private static NewOrBack withRows() {
        NewOrBack it = new NewOrBack();
        Bench.fill(it, 0, 2, 1, 2, 3, 4, 5);
        Bench.fill(it, 1, 2, 6, 7, 8, 9);
        return it;
    }

    private static void copyToAnother() {
        edge("31 copy: n items of SHEET s, from i on, come to SHEET t, from j on: 1");
        NewOrBack it = withRows();
        due("copy(0, 3, 1, 1, 2)", it.copy(0, 3, 1, 1, 2), 1);
        itemsAre(it, 1, 2, 6, 4, 5, 9);
        itemsAre(it, 0, 2, 1, 2, 3, 4, 5);
        due("copy(1, 0, 0, 0, 4)", it.copy(1, 0, 0, 0, 4), 1);
        itemsAre(it, 0, 2, 6, 4, 5, 9, 5);
        for (int form = 0; form < 3; form++) {
            it = new NewOrBack();
            Bench.fill(it, 2, form, 1, -1);
            it.sheet(3, form, 2);
            due("copy(2, 0, 3, 0, 2)", it.copy(2, 0, 3, 0, 2), 1);
            itemsAre(it, 3, form, 1, -1);
        }
    }

    private static void copyToItself() {
        edge("31 copy: SHEET t (perhaps s, as they were)");
        NewOrBack it = withRows();
        due("copy(0, 0, 0, 1, 4)", it.copy(0, 0, 0, 1, 4), 1);
        itemsAre(it, 0, 2, 1, 1, 2, 3, 4);
        it = withRows();
        due("copy(0, 1, 0, 0, 4)", it.copy(0, 1, 0, 0, 4), 1);
        itemsAre(it, 0, 2, 2, 3, 4, 5, 5);
        it = withRows();
        due("copy(0, 0, 0, 0, 5)", it.copy(0, 0, 0, 0, 5), 1);
        itemsAre(it, 0, 2, 1, 2, 3, 4, 5);
        due("copy(3, 0, 3, 0, 0), LOST", it.copy(3, 0, 3, 0, 0), NULL);
    }

    private static void copyOfNone() {
        edge("31 copy: of n 0, too: i or j above the size");
        NewOrBack it = withRows();
        due("copy(0, 0, 1, 0, 0)", it.copy(0, 0, 1, 0, 0), 1);
        due("copy(0, 5, 1, 4, 0)", it.copy(0, 5, 1, 4, 0), 1);
        due("copy(0, 6, 1, 4, 0)", it.copy(0, 6, 1, 4, 0), INDEX);
        due("copy(0, 5, 1, 5, 0)", it.copy(0, 5, 1, 5, 0), INDEX);
        due("copy(0, MOST, 1, 0, 0)", it.copy(0, MOST, 1, 0, 0), INDEX);
        due("copy(0, 0, 1, MOST, 0)", it.copy(0, 0, 1, MOST, 0), INDEX);
        it.sheet(2, 2, 0);
        due("copy(2, 0, 2, 0, 0)", it.copy(2, 0, 2, 0, 0), 1);
        due("copy(2, 1, 2, 0, 0)", it.copy(2, 1, 2, 0, 0), INDEX);
        due("copy(2, 0, 2, 1, 0)", it.copy(2, 0, 2, 1, 0), INDEX);
        itemsAre(it, 0, 2, 1, 2, 3, 4, 5);
        itemsAre(it, 1, 2, 6, 7, 8, 9);
    }

    private static void copyIndex() {
        edge("31 copy: INDEX: i, j or n below 0, not so many there");
        int[][] cases = {{-1, 0, 1}, {0, -1, 1}, {0, 0, -1}, {LEAST, 0, 0}, {0, LEAST, 0}, {0, 0, LEAST}, {5, 0, 1},
            {0, 4, 1}, {4, 0, 2}, {0, 3, 2}, {0, 0, 5}, {2, 0, 4}, {0, 0, 6}, {0, 0, MOST}, {1, 0, MOST}, {0, 1, MOST},
            {MOST, MOST, MOST}, {MOST, 0, 1}, {0, MOST, 1}, {-1, -1, 0}, {1, 1, -1}, {LEAST, LEAST, LEAST}};
        for (int[] c : cases) {
            NewOrBack it = withRows();
            due("copy(0, " + c[0] + ", 1, " + c[1] + ", " + c[2] + ")", it.copy(0, c[0], 1, c[1], c[2]), INDEX);
            due("count(8)", it.count(8), 2);
            itemsAre(it, 1, 2, 6, 7, 8, 9);
            due("copy(0, 4, 1, 3, 1)", it.copy(0, 4, 1, 3, 1), 1);
        }
    }

    private static void copyRefused() {
        edge("31 copy: BAD: the SHEETS; NULL: s, t; STORE; INDEX, the first that fits");
        NewOrBack it = withRows();
        it.sheet(2, 1, 5);
        for (int s : Bench.NO_SHEETS) {
            due("copy(" + s + ", 0, 0, 0, 0)", it.copy(s, 0, 0, 0, 0), BAD);
            due("copy(0, 0, " + s + ", 0, 0)", it.copy(0, 0, s, 0, 0), BAD);
            due("copy(" + s + ", 0, 3, 0, 0), LOST", it.copy(s, 0, 3, 0, 0), BAD);
            due("copy(3, 0, " + s + ", 0, 0), LOST", it.copy(3, 0, s, 0, 0), BAD);
        }
        due("count(8)", it.count(8), 0);
        due("copy(3, 0, 0, 0, 0)", it.copy(3, 0, 0, 0, 0), NULL);
        due("copy(0, 0, 3, 0, 0)", it.copy(0, 0, 3, 0, 0), NULL);
        due("copy(2, -1, 3, 0, 0)", it.copy(2, -1, 3, 0, 0), NULL);
        due("count(8)", it.count(8), 1);
        due("copy(0, 0, 2, 0, 1)", it.copy(0, 0, 2, 0, 1), STORE);
        due("copy(2, 0, 0, 0, 1)", it.copy(2, 0, 0, 0, 1), STORE);
        due("copy(0, 0, 2, 0, 0)", it.copy(0, 0, 2, 0, 0), STORE);
        due("copy(0, -1, 2, 9, -1)", it.copy(0, -1, 2, 9, -1), STORE);
        due("count(8)", it.count(8), 4);
        itemsAre(it, 0, 2, 1, 2, 3, 4, 5);
        itemsAre(it, 2, 1, 0, 0, 0, 0, 0);
    }

    // ---- promise 32

    private static void writeAsManyAsThereAre() {
        edge("32 write: SOON to PLACES 0 on (NONE), as many as there are items, eight at most: how many");
        int[] soon = {3, 4, 0, 2, NONE, NONE, NONE, NONE};
        for (int n = 0; n <= 10; n++) {
            NewOrBack it = Bench.made(Bench.RING, "", "ab");
            it.sheet(1, 2, n);
            int[] items = new int[n];
            for (int i = 0; i < n; i++) {
                it.put(1, 2, i, 77);
                items[i] = i < 8 ? soon[i] : 77;
            }
            due("write(1, 1) of " + n, it.write(1, 1), Math.min(n, 8));
            itemsAre(it, 1, 2, items);
        }
    }

    private static void writeInEachForm() {
        edge("29 put: by write(), too");
        for (int form = 0; form < 3; form++) {
            NewOrBack it = Bench.made("019;129;239;349;459;569;679;769;659;549;439;329", "abcdefghijkl");
            it.sheet(0, form, 8);
            due("write(0, 0)", it.write(0, 0), 8);
            itemsAre(it, 0, form, 108, 99, 0, 9, 18, 27, 36, 45);
        }
        NewOrBack it = new NewOrBack();
        it.sheet(0, 0, 2);
        it.write(0, 0);
        itemsAre(it, 0, 0, 0, NONE);
    }

    private static void writeRefused() {
        edge("32 write: BAD; NULL");
        NewOrBack it = Bench.made(Bench.RING);
        for (int walker : Bench.NO_WALKERS) {
            due("write(" + walker + ", 0)", it.write(walker, 0), BAD);
        }
        for (int s : Bench.NO_SHEETS) {
            due("write(0, " + s + ")", it.write(0, s), BAD);
        }
        due("count(8)", it.count(8), 0);
        due("write(0, 0)", it.write(0, 0), NULL);
        due("count(8)", it.count(8), 1);
    }

    // ---- promise 33

    private static void countsEmpty() {
        edge("33 count: of a new object 0");
        NewOrBack it = new NewOrBack();
        for (int what = 0; what <= 8; what++) {
            due("count(" + what + ")", it.count(what), 0);
        }
    }

    private static void countsFull() {
        edge("33 count: of an object with all that it can have");
        NewOrBack it = Bench.made("019;019;019;019;019;019;019;019;019;019;019;019", "", "a", "ab");
        Bench.type(it, 4, "aaaaaaaaaaaaaaaaaaaaaaaa");
        Bench.see(it, "a1 a1 a1 a1");
        int[] counts = {12, 47, 0, 1, 2, 24, 4, 108, 0};
        for (int what = 0; what <= 8; what++) {
            due("count(" + what + ")", it.count(what), counts[what]);
        }
        Bench.type(it, 0, ";");
        due("count(0) with a FAULT", it.count(0), 0);
        due("count(1) with a FAULT", it.count(1), 48);
        due("count(7) with a FAULT", it.count(7), 0);
    }

    private static void countsFindings() {
        edge("33 count: 8 the number of the latest FINDING (0 before any)");
        NewOrBack it = new NewOrBack();
        due("count(8) before any", it.count(8), 0);
        due("read(0, 0)", it.read(0, 0), NULL);
        due("count(8)", it.count(8), 1);
        it.sheet(0, 0, 1);
        due("sheet(0, 0, -1)", it.sheet(0, 0, -1), SIZE);
        due("count(8)", it.count(8), 5);
        due("put(0, 0, 1, 0)", it.put(0, 0, 1, 0), INDEX);
        due("count(8)", it.count(8), 2);
        due("put(0, 1, 0, 0)", it.put(0, 1, 0, 0), CAST);
        due("count(8)", it.count(8), 3);
        it.sheet(1, 1, 1);
        due("copy(0, 0, 1, 0, 1)", it.copy(0, 0, 1, 0, 1), STORE);
        due("count(8)", it.count(8), 4);
        due("put(0, 0, 0, 1) well", it.put(0, 0, 0, 1), 1);
        due("type(9, 0) BAD", it.type(9, 0), BAD);
        due("count(9) BAD", it.count(9), BAD);
        due("count(8) stays", it.count(8), 4);
    }

    private static void countBad() {
        edge("33 count: BAD");
        NewOrBack it = Bench.made(Bench.RING);
        for (int what : new int[] {-1, 9, 10, LEAST, MOST}) {
            due("count(" + what + ")", it.count(what), BAD);
        }
    }

    // ---- promise 34

    /** What the digest is made of, as the other calls answer it. */
    private static List<Integer> told(NewOrBack it) {
        List<Integer> told = new ArrayList<>();
        for (int what = 0; what <= 7; what++) {
            told.add(it.count(what));
        }
        told.add(it.fault());
        for (int way = 0; way < it.count(0); way++) {
            told.addAll(List.of(it.way(way, 0), it.way(way, 1), it.way(way, 2)));
        }
        for (int w = 0; w < 4; w++) {
            told.addAll(List.of(it.judged(w), it.place(w), it.open(w, NONE), it.gone(w), it.spent(w), it.still(w),
                    it.never(w)));
            for (int place = 0; place < 8; place++) {
                told.add(it.soon(w, place));
            }
            int next = w == 3 ? 0 : w + 1;
            told.addAll(List.of(it.thread(w, 0), it.thread(w, 1), it.errands(w, 21, NONE), it.meeting(w, next, 0),
                    it.meeting(w, next, 1), it.lent(w, next)));
        }
        told.add(it.cameIn());
        return told;
    }

    /** As whole numbers without a bound, of which the lowest 64 bits are the long that has wrapped. */
    private static long wrapped(List<Integer> told) {
        BigInteger h = BigInteger.valueOf(17);
        for (int answer : told) {
            h = h.multiply(BigInteger.valueOf(31)).add(BigInteger.valueOf(answer));
        }
        return h.longValue();
    }

    private static void digestIs(String what, NewOrBack it) {
        due("digest() " + what, it.digest(), wrapped(told(it)));
    }

    private static void digestThatWraps() {
        edge("34 digest: as longs that wrap");
        NewOrBack it = new NewOrBack();
        due("what an empty object tells", told(it).size(), 8 + 1 + 4 * (7 + 8 + 6) + 1);
        digestIs("of an empty object", it);
        it = Bench.made(Bench.RING, "ab", "abx", "abba", "dc");
        Bench.see(it, "a1 b2");
        it.home(2, 3);
        digestIs("of a ring", it);
    }

    private static void digestAsItIsTold() {
        edge("34 digest: errands(it, 21, NONE) and cameIn() as they are told: FULL, NONE");
        NewOrBack it = Bench.made(Bench.TWELVE, "abcdef", "l", "", "aab");
        due("errands(1, 21, NONE)", it.errands(1, 21, NONE), -4);
        due("cameIn()", it.cameIn(), -4);
        digestIs("of twelve ways", it);
        it = Bench.made("021;241;401", "a");
        due("errands(0, 21, NONE)", it.errands(0, 21, NONE), 2);
        digestIs("of a triangle", it);
        it = Bench.made("011", "a");
        due("errands(0, 21, NONE)", it.errands(0, 21, NONE), NONE);
        digestIs("of one way", it);
        it = Bench.made("121;141;101", "", "aa", "abb", "bbcc");
        for (int walker = 0; walker < 4; walker++) {
            it.home(walker, 1);
        }
        due("errands(0, 21, NONE)", it.errands(0, 21, NONE), 6);
        due("never(1)", it.never(1), 4);
        due("never(3)", it.never(3), 17);
        digestIs("of a star", it);
    }

    private static void digestOfAFault() {
        edge("34 digest: with a FAULT");
        digestIs("of a ring with a fault", Bench.made(Bench.RING + ";", "ab", "", "x"));
    }

    private static void digestIsNotOfSheets() {
        edge("34 digest: of counts 0 to 7, not of SHEETS and FINDINGS");
        NewOrBack it = Bench.made(Bench.RING, "ab");
        long before = it.digest();
        Bench.fill(it, 0, 0, 1, 2, 3);
        it.lose(3);
        due("digest() behind a FINDING", it.digest(), before);
        it.read(0, 3);
        due("digest() with another walk", it.digest() == before ? 1 : 0, 0);
    }

    // ---- what it is

    private static void the512thCall() {
        edge("What it is: an object is used for at most 512 calls");
        NewOrBack it = new NewOrBack();
        Bench.type(it, 0, Bench.RING);
        for (int calls = 15; calls < 509; calls += 2) {
            due("type(1, 'a') call " + (calls + 1), it.type(1, 'a'), 1);
            due("wipe(1) call " + (calls + 2), it.wipe(1), 1);
        }
        due("type(1, 'd') call 510", it.type(1, 'd'), 1);
        due("place(0) call 511", it.place(0), 3);
        due("digest() call 512", it.digest(), Bench.made(Bench.RING, "d").digest());
    }

    public static void main(String[] args) {
        sheetOf0To48();
        itemsAre0AtFirst();
        sheetSize();
        sheetBad();
        loseHowMany();
        loseRefused();
        putLowestBits();
        putOneItem();
        putRefused();
        getRefused();
        copyToAnother();
        copyToItself();
        copyOfNone();
        copyIndex();
        copyRefused();
        writeAsManyAsThereAre();
        writeInEachForm();
        writeRefused();
        countsEmpty();
        countsFull();
        countsFindings();
        countBad();
        digestThatWraps();
        digestAsItIsTold();
        digestOfAFault();
        digestIsNotOfSheets();
        the512thCall();
        checks.end();
    }
}
