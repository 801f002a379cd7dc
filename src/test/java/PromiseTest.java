/** Each promise by hand: what is usual, the edges that the document names, and wrong numbers. */
public final class PromiseTest {
    private static final int NONE = -1, BAD = -2, NOT = -3, FULL = -4;
    private static final int NULL = -11, INDEX = -12, CAST = -13, STORE = -14, SIZE = -15;
    private static final int LEAST = Integer.MIN_VALUE, MOST = Integer.MAX_VALUE;
    private static final int[] NO_WALKERS = {-1, 4, LEAST, MOST};
    /** a: 0 1 in 3, b: 1 2 in 4, c: 2 3 in 2, d: 3 0 in 1. */
    private static final String RING = "013;124;232;301";
    private static final String TWELVE = "011;011;011;011;011;011;011;011;011;011;011;012";
    private static final Checks checks = new Checks();

    private static NewOrBack it;

    private static void due(String call, long got, long want) {
        checks.due(call, got, want);
    }

    private static void type(int text, String bytes) {
        for (int i = 0; i < bytes.length(); i++) {
            it.type(text, bytes.charAt(i));
        }
    }

    /** A new object with a wood, and texts of walkers. */
    private static void begin(String wood, String... walks) {
        it = new NewOrBack();
        type(0, wood);
        for (int i = 0; i < walks.length; i++) {
            type(i + 1, walks[i]);
        }
    }

    private static void retype(int text, String bytes) {
        it.wipe(text);
        type(text, bytes);
    }

    private static void aNewObject() {
        begin("");
        for (int what = 0; what <= 8; what++) {
            due("count(" + what + ")", it.count(what), 0);
        }
        due("fault()", it.fault(), NONE);
        for (int i = 0; i < 4; i++) {
            due("judged(" + i + ")", it.judged(i), NONE);
            due("place(" + i + ")", it.place(i), 0);
            due("gone(" + i + ")", it.gone(i), 0);
            due("spent(" + i + ")", it.spent(i), 0);
            due("open(" + i + ", NONE)", it.open(i, NONE), 0);
            due("still(" + i + ")", it.still(i), 1);
            due("never(" + i + ")", it.never(i), 0);
            due("soon(" + i + ", 0)", it.soon(i, 0), 0);
            due("soon(" + i + ", 1)", it.soon(i, 1), NONE);
            due("lose(" + i + ")", it.lose(i), NULL);
            due("home(" + i + ", 0)", it.home(i, 0), 0);
        }
        due("NONE", NewOrBack.NONE, NONE);
        due("BAD", NewOrBack.BAD, BAD);
        due("NOT", NewOrBack.NOT, NOT);
        due("FULL", NewOrBack.FULL, FULL);
    }

    private static void typing() {
        begin("");
        for (int text = 0; text < 5; text++) {
            int room = text == 0 ? 60 : 24;
            for (int i = 1; i <= room; i++) {
                due("type(" + text + ", 0)", it.type(text, i % 2 == 0 ? 0 : 255), i);
            }
            due("type(" + text + ", 97) when full", it.type(text, 97), FULL);
            due("type(" + text + ", 256) when full", it.type(text, 256), BAD);
            due("count", it.count(text + 1), room);
        }
        begin("");
        due("type(5, 48)", it.type(5, 48), BAD);
        due("type(-1, 48)", it.type(-1, 48), BAD);
        due("type(0, -1)", it.type(0, -1), BAD);
        due("type(0, 256)", it.type(0, 256), BAD);
        due("type(LEAST, 48)", it.type(LEAST, 48), BAD);
        due("type(0, MOST)", it.type(0, MOST), BAD);
        due("count(1)", it.count(1), 0);
    }

    private static void wiping() {
        begin(RING, "ab", "", "x", "dcba");
        due("wipe(1)", it.wipe(1), 2);
        due("place(0)", it.place(0), 0);
        due("wipe(1) again", it.wipe(1), 0);
        due("wipe(2)", it.wipe(2), 0);
        due("wipe(3)", it.wipe(3), 1);
        due("judged(2)", it.judged(2), NONE);
        due("wipe(0)", it.wipe(0), 15);
        due("fault()", it.fault(), NONE);
        due("count(0)", it.count(0), 0);
        due("count(5)", it.count(5), 4);
        due("judged(3)", it.judged(3), 0);
        due("wipe(5)", it.wipe(5), BAD);
        due("wipe(-1)", it.wipe(-1), BAD);
        due("wipe(MOST)", it.wipe(MOST), BAD);
        type(1, "d");
        due("judged(0) without a wood", it.judged(0), 0);
        type(0, "071");
        due("judged(0) in another wood", it.judged(0), 0);
        retype(1, "a");
        due("place(0)", it.place(0), 7);
    }

    private static void faultOf(String wood, int fault, int ways) {
        begin(wood);
        due("fault() of " + wood, it.fault(), fault);
        due("count(0) of " + wood, it.count(0), ways);
    }

    private static void faults() {
        faultOf("", NONE, 0);
        faultOf("0", 1, 0);
        faultOf("01", 2, 0);
        faultOf("011", NONE, 1);
        faultOf("769", NONE, 1);
        faultOf("011;", 4, 0);
        faultOf("011;011", NONE, 2);
        faultOf("011;109", NONE, 2);
        faultOf("00", 1, 0);
        faultOf("001", 1, 0);
        faultOf("011;22", 5, 0);
        faultOf("8", 0, 0);
        faultOf("/", 0, 0);
        faultOf("08", 1, 0);
        faultOf("0/", 1, 0);
        faultOf("010", 2, 0);
        faultOf("01:", 2, 0);
        faultOf("0112", 3, 0);
        faultOf("011:", 3, 0);
        faultOf(";", 0, 0);
        faultOf(";011", 0, 0);
        faultOf("011;;", 4, 0);
        faultOf("011 ", 3, 0);
        faultOf("011;8", 4, 0);
        faultOf(TWELVE, NONE, 12);
        faultOf(TWELVE + ";", 48, 0);
        faultOf(TWELVE + ";0", 48, 0);
        faultOf(TWELVE + ";011", 48, 0);
        faultOf(TWELVE + ";x", 48, 0);
        faultOf(TWELVE + "1", 47, 0);
        faultOf("001" + TWELVE.substring(3) + ";011", 1, 0);
        begin("");
        it.type(0, 0);
        due("fault() of a byte 0", it.fault(), 0);
        it.wipe(0);
        it.type(0, 176);
        due("fault() of a byte 176", it.fault(), 0);
        begin(RING, "ab");
        type(0, ";");
        due("place(0) where the wood has a fault", it.place(0), 0);
        due("still(0) where the wood has a fault", it.still(0), 1);
        type(0, "021");
        due("place(0) where it has none again", it.place(0), 2);
    }

    private static void ways() {
        begin("012;729;354");
        int[] told = {0, 1, 2, 7, 2, 9, 3, 5, 4};
        for (int i = 0; i < 9; i++) {
            due("way(" + i / 3 + ", " + i % 3 + ")", it.way(i / 3, i % 3), told[i]);
        }
        due("way(3, 0)", it.way(3, 0), BAD);
        due("way(-1, 0)", it.way(-1, 0), BAD);
        due("way(0, 3)", it.way(0, 3), BAD);
        due("way(0, -1)", it.way(0, -1), BAD);
        due("way(MOST, 0)", it.way(MOST, 0), BAD);
        due("way(0, LEAST)", it.way(0, LEAST), BAD);
        type(0, ";");
        due("way(0, 0) with a fault", it.way(0, 0), BAD);
        begin(TWELVE);
        due("way(11, 2)", it.way(11, 2), 2);
        due("way(12, 2)", it.way(12, 2), BAD);
    }

    private static void homes() {
        begin(RING, "a", "a");
        due("home(0, 1)", it.home(0, 1), 0);
        due("place(0)", it.place(0), 0);
        due("home(0, 2)", it.home(0, 2), 1);
        due("place(0)", it.place(0), 2);
        due("judged(0)", it.judged(0), 0);
        due("place(1)", it.place(1), 1);
        due("home(3, 7)", it.home(3, 7), 0);
        due("still(3)", it.still(3), 128);
        due("home(0, 8)", it.home(0, 8), BAD);
        due("home(0, -1)", it.home(0, -1), BAD);
        for (int walker : NO_WALKERS) {
            due("home(" + walker + ", 0)", it.home(walker, 0), BAD);
        }
        due("home(0, 0)", it.home(0, 0), 2);
    }

    private static void reading() {
        begin(RING, "zzz");
        due("read(0, 0)", it.read(0, 0), NULL);
        due("count(8)", it.count(8), 1);
        due("read(4, 0)", it.read(4, 0), BAD);
        due("read(-1, 0)", it.read(-1, 0), BAD);
        for (int walker : NO_WALKERS) {
            due("read(0, " + walker + ")", it.read(0, walker), BAD);
        }
        due("count(2)", it.count(2), 3);
        it.sheet(0, 2, 30);
        due("read(0, 0) of as", it.read(0, 0), 24);
        due("count(2)", it.count(2), 24);
        due("judged(0)", it.judged(0), 2);
        it.put(0, 2, 1, 1);
        it.put(0, 2, 2, 12);
        due("read(0, 0) up to 12", it.read(0, 0), 2);
        due("place(0)", it.place(0), 2);
        it.put(0, 2, 2, 11);
        it.put(0, 2, 3, -1);
        due("read(0, 0) up to -1", it.read(0, 0), 3);
        due("judged(0)", it.judged(0), 2);
        it.sheet(1, 0, 0);
        due("read(1, 0) of none", it.read(1, 0), 0);
        due("place(0)", it.place(0), 0);
        it.sheet(1, 1, 1);
        it.put(1, 1, 0, 3);
        due("read(1, 3)", it.read(1, 3), 1);
        due("place(3)", it.place(3), 3);
        it.sheet(2, 0, 25);
        due("read(2, 1) of 25", it.read(2, 1), 24);
    }

    private static void judging() {
        begin(RING, "", "abcddcba", "aaa", "aca");
        due("judged(0)", it.judged(0), NONE);
        due("judged(1)", it.judged(1), NONE);
        due("judged(2)", it.judged(2), 2);
        due("judged(3)", it.judged(3), 1);
        due("gone(3)", it.gone(3), 1);
        retype(1, "abx");
        due("judged(0) of another byte", it.judged(0), 2);
        retype(1, "abe");
        due("judged(0) of no way", it.judged(0), 2);
        retype(1, "A");
        due("judged(0) of A", it.judged(0), 0);
        retype(1, "aba");
        due("judged(0) of aba", it.judged(0), 2);
        retype(1, "abba");
        due("judged(0) of abba", it.judged(0), NONE);
        retype(1, "abcda");
        due("judged(0) of a gone way that is not the last open", it.judged(0), 4);
        retype(1, "abbab");
        due("judged(0) of b, where it is not", it.judged(0), 4);
        it.wipe(1);
        it.type(1, 'a');
        it.type(1, 255);
        due("judged(0) of 255", it.judged(0), 1);
        for (int walker : NO_WALKERS) {
            due("judged(" + walker + ")", it.judged(walker), BAD);
        }
    }

    private static void standing() {
        begin(RING, "ab", "abcd", "abcddc", "aadb");
        it.home(3, 0);
        int[] places = {2, 0, 2, 3};
        int[] opens = {2, 4, 2, 1};
        int[] gones = {3, 15, 15, 9};
        int[] spents = {7, 10, 13, 7};
        for (int i = 0; i < 4; i++) {
            due("place(" + i + ")", it.place(i), places[i]);
            due("open(" + i + ", NONE)", it.open(i, NONE), opens[i]);
            due("gone(" + i + ")", it.gone(i), gones[i]);
            due("spent(" + i + ")", it.spent(i), spents[i]);
        }
        due("judged(3)", it.judged(3), 3);
        due("open(0, 0)", it.open(0, 0), 0);
        due("open(0, 1)", it.open(0, 1), 1);
        due("open(0, 2)", it.open(0, 2), NONE);
        due("open(0, MOST)", it.open(0, MOST), NONE);
        due("open(3, 0)", it.open(3, 0), 3);
        due("open(3, 1)", it.open(3, 1), NONE);
        due("open(0, -2)", it.open(0, -2), BAD);
        due("open(0, LEAST)", it.open(0, LEAST), BAD);
        for (int walker : NO_WALKERS) {
            due("place(" + walker + ")", it.place(walker), BAD);
            due("open(" + walker + ", 0)", it.open(walker, 0), BAD);
            due("open(" + walker + ", NONE)", it.open(walker, NONE), BAD);
            due("gone(" + walker + ")", it.gone(walker), BAD);
            due("spent(" + walker + ")", it.spent(walker), BAD);
        }
        begin(TWELVE, "abcdefghijkl");
        due("open(0, NONE) of twelve", it.open(0, NONE), 12);
        due("open(0, 11)", it.open(0, 11), 11);
        due("gone(0)", it.gone(0), 4095);
        type(1, "lkjihgfedcba");
        due("judged(0) of all there and back", it.judged(0), NONE);
        due("spent(0)", it.spent(0), 26);
        due("still(0)", it.still(0), 1);
        due("never(0)", it.never(0), 2);
    }

    private static void mayStep() {
        begin(RING, "ab", "abcd", "aa");
        int[][] kinds = {{0, 2, 1, 0}, {0, 0, 0, 2}, {0, 0, 0, 1}};
        for (int walker = 0; walker < 3; walker++) {
            for (int way = 0; way < 4; way++) {
                due("may(" + walker + ", " + way + ")", it.may(walker, way), kinds[walker][way]);
            }
        }
        due("may(0, 4)", it.may(0, 4), BAD);
        due("may(0, -1)", it.may(0, -1), BAD);
        due("may(0, LEAST)", it.may(0, LEAST), BAD);
        for (int walker : NO_WALKERS) {
            due("may(" + walker + ", 0)", it.may(walker, 0), BAD);
        }
    }

    private static void coming() {
        begin(RING, "ab", "abcd", "abcddcba", "aa");
        int[][] soons = {{3, 4, 0, 2}, {0, 7, 3, 1}, {0, NONE, NONE, NONE}, {0, 7, 3, 1}};
        int[] stills = {15, 15, 1, 15};
        int[] nevers = {0, 0, 14, 0};
        for (int walker = 0; walker < 4; walker++) {
            for (int place = 0; place < 8; place++) {
                due("soon(" + walker + ", " + place + ")", it.soon(walker, place),
                        place < 4 ? soons[walker][place] : NONE);
            }
            due("still(" + walker + ")", it.still(walker), stills[walker]);
            due("never(" + walker + ")", it.never(walker), nevers[walker]);
            due("soon(" + walker + ", 8)", it.soon(walker, 8), BAD);
            due("soon(" + walker + ", -1)", it.soon(walker, -1), BAD);
        }
        for (int walker : NO_WALKERS) {
            due("soon(" + walker + ", 0)", it.soon(walker, 0), BAD);
            due("still(" + walker + ")", it.still(walker), BAD);
            due("never(" + walker + ")", it.never(walker), BAD);
        }
        begin("019;011", "a", "b");
        due("soon by the sooner of two ways", it.soon(0, 0), 1);
        due("soon back by the sooner way", it.soon(1, 0), 1);
        begin("011;121;231;341", "ab");
        due("soon(0, 4)", it.soon(0, 4), 2);
        it.home(1, 4);
        due("soon(1, 0)", it.soon(1, 0), 4);
        retype(1, "abccb");
        due("never(0) of places far behind", it.never(0), 12);
        due("still(0)", it.still(0), 3);
    }

    private static void keeping() {
        begin(RING, "ab", "aadcb", "", "aa");
        due("keeps on", it.keeps(0, 2, 15), 1);
        due("keeps back", it.keeps(0, 1, 15), 1);
        due("keeps a place without ways", it.keeps(0, 1, 16), 0);
        due("keeps all", it.keeps(0, 2, 255), 0);
        due("keeps none", it.keeps(0, 2, 0), 1);
        due("keeps(0, 0, 0)", it.keeps(0, 0, 0), NOT);
        due("keeps(0, 3, 0)", it.keeps(0, 3, 0), NOT);
        due("keeps back from 1: 2, 3, 0", it.keeps(1, 1, 13), 1);
        due("keeps back from 1: 1", it.keeps(1, 1, 2), 0);
        due("keeps(0, 4, 0)", it.keeps(0, 4, 0), BAD);
        due("keeps(0, -1, 0)", it.keeps(0, -1, 0), BAD);
        due("keeps(0, 0, 256)", it.keeps(0, 0, 256), BAD);
        due("keeps(0, 1, -1)", it.keeps(0, 1, -1), BAD);
        for (int walker : NO_WALKERS) {
            due("keeps(" + walker + ", 0, 0)", it.keeps(walker, 0, 0), BAD);
        }
        due("place(0) as it was", it.place(0), 2);
        due("still(0) as it was", it.still(0), 15);
    }

    private static void errandsAre(int walker, int places, int minutes, String steps) {
        String call = "errands(" + walker + ", " + places + ", ";
        due(call + "NONE)", it.errands(walker, places, NONE), minutes);
        for (int i = 0; i < steps.length(); i++) {
            due(call + i + ")", it.errands(walker, places, i), steps.charAt(i) - 'a');
        }
        due(call + steps.length() + ")", it.errands(walker, places, steps.length()), NONE);
        due(call + "MOST)", it.errands(walker, places, MOST), NONE);
    }

    private static void errands() {
        begin(RING, "ab", "", "aa", "aadcbbcd");
        errandsAre(0, 0, 3, "cd");
        errandsAre(0, 4, 3, "cd");
        errandsAre(0, 2, 7, "ba");
        errandsAre(0, 10, 9, "badd");
        errandsAre(1, 0, 0, "");
        errandsAre(1, 1, 0, "");
        errandsAre(1, 4, 6, "dccd");
        errandsAre(1, 6, 10, "abcd");
        errandsAre(1, 16, NONE, "");
        errandsAre(2, 2, 14, "dcbbcd");
        errandsAre(3, 1, 0, "");
        errandsAre(3, 2, NONE, "");
        it.home(1, 2);
        errandsAre(1, 1, 6, "cddc");
        begin("021;211;012");
        errandsAre(0, 2, 4, "cc");
        begin("012;021;211", "a");
        errandsAre(0, 4, 2, "cb");
        errandsAre(0, 5, 2, "cb");
        begin("011;011;011;011;011;011;011", "", "a", "abcdefg");
        due("errands of seven ways", it.errands(0, 0, NONE), FULL);
        due("errands of seven ways, step", it.errands(0, 0, 0), FULL);
        errandsAre(1, 2, 1, "a");
        errandsAre(1, 3, 1, "a");
        errandsAre(2, 3, 1, "g");
        due("errands(0, 256, NONE)", it.errands(0, 256, NONE), BAD);
        due("errands(0, -1, NONE)", it.errands(0, -1, NONE), BAD);
        due("errands(0, 0, -2)", it.errands(0, 0, -2), BAD);
        due("errands(0, 0, LEAST)", it.errands(0, 0, LEAST), BAD);
        for (int walker : NO_WALKERS) {
            due("errands(" + walker + ", 0, NONE)", it.errands(walker, 0, NONE), BAD);
        }
    }

    private static void meeting() {
        begin(RING);
        it.home(1, 2);
        due("meeting(0, 1, 0)", it.meeting(0, 1, 0), 3);
        due("meeting(0, 1, 1)", it.meeting(0, 1, 1), 2);
        due("meeting(1, 0, 0)", it.meeting(1, 0, 0), 3);
        due("meeting(0, 2, 0)", it.meeting(0, 2, 0), 0);
        due("meeting(0, 2, 1)", it.meeting(0, 2, 1), 0);
        it.home(3, 7);
        due("meeting(0, 3, 0)", it.meeting(0, 3, 0), NONE);
        due("meeting(3, 0, 1)", it.meeting(3, 0, 1), NONE);
        for (int walker = 0; walker < 4; walker++) {
            due("meeting with oneself", it.meeting(walker, walker, 0), BAD);
        }
        for (int walker : NO_WALKERS) {
            due("meeting(" + walker + ", 0, 0)", it.meeting(walker, 0, 0), BAD);
            due("meeting(0, " + walker + ", 0)", it.meeting(0, walker, 0), BAD);
        }
        due("meeting(0, 1, 2)", it.meeting(0, 1, 2), BAD);
        due("meeting(0, 1, -1)", it.meeting(0, 1, -1), BAD);
        begin("673");
        it.home(0, 7);
        it.home(1, 6);
        due("of like places the least", it.meeting(0, 1, 0), 6);
        due("of like places, when", it.meeting(0, 1, 1), 3);
    }

    private static void lending() {
        begin(RING, "ab");
        it.home(1, 2);
        due("lent(0, 1)", it.lent(0, 1), 13);
        due("lent(1, 0)", it.lent(1, 0), 15);
        due("lent(2, 1)", it.lent(2, 1), 15);
        type(2, "c");
        due("lent(0, 1) with c open", it.lent(0, 1), 13);
        due("lent(1, 0) with c gone", it.lent(1, 0), 15);
        retype(1, "abba");
        due("lent(1, 0) at 0", it.lent(1, 0), 9);
        for (int walker = 0; walker < 4; walker++) {
            due("lent to oneself", it.lent(walker, walker), BAD);
        }
        for (int walker : NO_WALKERS) {
            due("lent(" + walker + ", 0)", it.lent(walker, 0), BAD);
            due("lent(0, " + walker + ")", it.lent(0, walker), BAD);
        }
        due("gone(0) as it was", it.gone(0), 3);
        due("gone(1) as it was", it.gone(1), 4);
    }

    private static void losing() {
        begin(RING, "ab", "", "aa");
        int lost = 0;
        for (int cut = 0; cut < 16; cut++) {
            lost |= it.lost(0, cut) << cut;
        }
        // a or b, and c or d
        due("lost(0, all sets)", lost, 1 << 5 | 1 << 6 | 1 << 7 | 1 << 9 | 1 << 10 | 1 << 11 | 1 << 13 | 1 << 14 | 1 << 15);
        due("lost at home", it.lost(1, 15), 0);
        due("lost(0, 16)", it.lost(0, 16), BAD);
        due("lost(0, -1)", it.lost(0, -1), BAD);
        due("lost(0, LEAST)", it.lost(0, LEAST), BAD);
        for (int walker : NO_WALKERS) {
            due("lost(" + walker + ", 0)", it.lost(walker, 0), BAD);
            due("thread(" + walker + ", 0)", it.thread(walker, 0), BAD);
        }
        due("thread(0, 0)", it.thread(0, 0), 2);
        due("thread(0, 1)", it.thread(0, 1), 5);
        due("thread(1, 0)", it.thread(1, 0), NONE);
        due("thread(1, 1)", it.thread(1, 1), NONE);
        due("thread(2, 1)", it.thread(2, 1), NONE);
        due("thread(0, 2)", it.thread(0, 2), BAD);
        due("thread(0, -1)", it.thread(0, -1), BAD);
        begin(TWELVE, "l", "abc");
        due("thread(0, 0) of twelve", it.thread(0, 0), 12);
        due("thread(0, 1) of twelve", it.thread(0, 1), 4095);
        due("thread(1, 1) of twelve", it.thread(1, 1), 4092);
        due("lost(0, 4095)", it.lost(0, 4095), 1);
        due("lost(0, 4094)", it.lost(0, 4094), 0);
        due("lost(0, 4096)", it.lost(0, 4096), BAD);
        begin("121;011;021;231", "bad");
        due("thread, the last way", it.thread(0, 1), 8);
        due("thread, how many", it.thread(0, 0), 1);
        begin("");
        due("lost(0, 0) without ways", it.lost(0, 0), 0);
        due("lost(0, 1) without ways", it.lost(0, 1), BAD);
    }

    private static void sights() {
        begin(RING);
        due("cameIn() unseen", it.cameIn(), 255);
        due("seen(0, 1)", it.seen(0, 1), 1);
        due("cameIn()", it.cameIn(), 15);
        due("seen(0, 0)", it.seen(0, 0), 2);
        due("cameIn()", it.cameIn(), 15);
        due("seen(1, 2)", it.seen(1, 2), 3);
        due("cameIn()", it.cameIn(), 13);
        due("seen(11, 7)", it.seen(11, 7), 4);
        due("cameIn() with no such way", it.cameIn(), 0);
        due("seen(0, 0) a fifth", it.seen(0, 0), FULL);
        due("seen(12, 0)", it.seen(12, 0), BAD);
        due("seen(-1, 0)", it.seen(-1, 0), BAD);
        due("seen(0, 8)", it.seen(0, 8), BAD);
        due("seen(0, -1)", it.seen(0, -1), BAD);
        due("count(6)", it.count(6), 4);
        due("forget()", it.forget(), 4);
        due("forget() again", it.forget(), 0);
        due("cameIn() forgotten", it.cameIn(), 255);
        it.seen(0, 2);
        due("cameIn() of a place not at the way", it.cameIn(), 0);
        it.forget();
        it.seen(2, 3);
        it.seen(2, 3);
        due("cameIn() of a step twice", it.cameIn(), 0);
        it.forget();
        it.seen(3, 0);
        it.seen(2, 3);
        it.seen(1, 2);
        it.seen(0, 1);
        due("cameIn() neither back nor round", it.cameIn(), 0);
        it.forget();
        it.seen(0, 1);
        it.seen(1, 2);
        it.seen(2, 3);
        it.seen(3, 0);
        due("cameIn() back or round", it.cameIn(), 15);
        begin("011;121;231;341;451");
        it.seen(4, 5);
        it.seen(0, 0);
        due("cameIn() from afar", it.cameIn(), 31);
        type(0, ";011");
        due("cameIn() of six ways", it.cameIn(), 31);
        type(0, ";011");
        due("cameIn() of seven ways", it.cameIn(), FULL);
        it.forget();
        due("cameIn() of seven ways unseen", it.cameIn(), FULL);
    }

    private static void wolves() {
        begin(RING, "ab", "");
        int[] safe = {0, 0, 0, 1, 1, 1, 1, 1};
        for (int wolf = 0; wolf < 8; wolf++) {
            due("safe(0, " + wolf + ")", it.safe(0, wolf), safe[wolf]);
            due("safe(1, " + wolf + ")", it.safe(1, wolf), wolf == 0 ? 0 : 1);
        }
        due("safe(0, 8)", it.safe(0, 8), BAD);
        due("safe(0, -1)", it.safe(0, -1), BAD);
        for (int walker : NO_WALKERS) {
            due("safe(" + walker + ", 0)", it.safe(walker, 0), BAD);
        }
        begin("011;121;231;341;451;561", "ab");
        due("safe before the wolf comes", it.safe(0, 4), 1);
        due("caught on the way", it.safe(0, 1), 0);
        type(0, ";671");
        due("safe of seven ways", it.safe(0, 4), FULL);
        due("safe of seven ways, no such place", it.safe(0, 8), BAD);
    }

    private static void sheets() {
        begin(RING, "ab");
        due("sheet(0, 0, 48)", it.sheet(0, 0, 48), 48);
        due("sheet(0, 0, 49)", it.sheet(0, 0, 49), BAD);
        due("sheet(4, 0, -1)", it.sheet(4, 0, -1), BAD);
        due("sheet(-1, 0, 1)", it.sheet(-1, 0, 1), BAD);
        due("sheet(0, 3, -1)", it.sheet(0, 3, -1), BAD);
        due("sheet(0, -1, 1)", it.sheet(0, -1, 1), BAD);
        due("count(8)", it.count(8), 0);
        due("sheet(0, 0, -1)", it.sheet(0, 0, -1), SIZE);
        due("sheet(0, 0, LEAST)", it.sheet(0, 0, LEAST), SIZE);
        due("count(8)", it.count(8), 5);
        due("get(0, 0, 47)", it.get(0, 0, 47), 0);
        due("put(0, 0, 47, 200)", it.put(0, 0, 47, 200), 1);
        due("get(0, 0, 47)", it.get(0, 0, 47), -56);
        due("sheet(0, 0, 48) anew", it.sheet(0, 0, 48), 48);
        due("get(0, 0, 47) anew", it.get(0, 0, 47), 0);
        due("sheet(0, 2, 0)", it.sheet(0, 2, 0), 0);
        due("lose(0)", it.lose(0), 0);
        due("lose(0) again", it.lose(0), NULL);
        due("count(8)", it.count(8), 1);
        due("lose(4)", it.lose(4), BAD);
        due("lose(-1)", it.lose(-1), BAD);
        it.sheet(3, 1, 5);
        due("lose(3)", it.lose(3), 5);
    }

    private static void items() {
        begin("");
        it.sheet(1, 1, 3);
        it.sheet(2, 2, 2);
        due("put(1, 1, 0, 32768)", it.put(1, 1, 0, 32768), 1);
        due("get(1, 1, 0)", it.get(1, 1, 0), -32768);
        due("put(1, 1, 2, -32769)", it.put(1, 1, 2, -32769), 1);
        due("get(1, 1, 2)", it.get(1, 1, 2), 32767);
        due("put(2, 2, 1, LEAST)", it.put(2, 2, 1, LEAST), 1);
        due("get(2, 2, 1)", it.get(2, 2, 1), LEAST);
        due("put(0, 1, 0, 0)", it.put(0, 1, 0, 0), NULL);
        due("count(8)", it.count(8), 1);
        due("put(1, 0, 9, 0)", it.put(1, 0, 9, 0), CAST);
        due("count(8)", it.count(8), 3);
        due("put(1, 1, 3, 0)", it.put(1, 1, 3, 0), INDEX);
        due("put(1, 1, -1, 0)", it.put(1, 1, -1, 0), INDEX);
        due("count(8)", it.count(8), 2);
        due("get(0, 0, 0)", it.get(0, 0, 0), LEAST);
        due("count(8)", it.count(8), 1);
        due("get(1, 2, 5)", it.get(1, 2, 5), LEAST);
        due("count(8)", it.count(8), 3);
        due("get(1, 1, 3)", it.get(1, 1, 3), LEAST);
        due("count(8)", it.count(8), 2);
        due("get(1, 1, MOST)", it.get(1, 1, MOST), LEAST);
        it.put(0, 0, 0, 0);
        due("get(4, 0, 0)", it.get(4, 0, 0), LEAST);
        due("get(-1, 0, 0)", it.get(-1, 0, 0), LEAST);
        due("get(1, 3, 0)", it.get(1, 3, 0), LEAST);
        due("get(1, -1, 0)", it.get(1, -1, 0), LEAST);
        due("put(4, 0, 0, 0)", it.put(4, 0, 0, 0), BAD);
        due("put(-1, 0, 0, 0)", it.put(-1, 0, 0, 0), BAD);
        due("put(1, 3, 0, 0)", it.put(1, 3, 0, 0), BAD);
        due("put(0, -1, 0, 0)", it.put(0, -1, 0, 0), BAD);
        due("count(8) as it was", it.count(8), 1);
    }

    private static void row(int s, int... items) {
        for (int i = 0; i < items.length; i++) {
            due("get(" + s + ", 2, " + i + ")", it.get(s, 2, i), items[i]);
        }
    }

    private static void copying() {
        begin("");
        it.sheet(0, 2, 5);
        it.sheet(1, 2, 4);
        it.sheet(2, 1, 5);
        for (int i = 0; i < 5; i++) {
            it.put(0, 2, i, i + 1);
        }
        due("copy(0, 1, 1, 0, 3)", it.copy(0, 1, 1, 0, 3), 1);
        row(1, 2, 3, 4, 0);
        due("copy(0, 0, 0, 1, 4)", it.copy(0, 0, 0, 1, 4), 1);
        row(0, 1, 1, 2, 3, 4);
        due("copy(0, 2, 0, 0, 3)", it.copy(0, 2, 0, 0, 3), 1);
        row(0, 2, 3, 4, 3, 4);
        due("copy(0, 5, 1, 4, 0)", it.copy(0, 5, 1, 4, 0), 1);
        due("copy(0, 6, 1, 0, 0)", it.copy(0, 6, 1, 0, 0), INDEX);
        due("copy(0, 0, 1, 5, 0)", it.copy(0, 0, 1, 5, 0), INDEX);
        due("copy(0, -1, 1, 0, 1)", it.copy(0, -1, 1, 0, 1), INDEX);
        due("copy(0, 0, 1, -1, 1)", it.copy(0, 0, 1, -1, 1), INDEX);
        due("copy(0, 0, 1, 0, -1)", it.copy(0, 0, 1, 0, -1), INDEX);
        due("copy(0, 3, 1, 0, 3)", it.copy(0, 3, 1, 0, 3), INDEX);
        due("copy(0, 0, 1, 0, 5)", it.copy(0, 0, 1, 0, 5), INDEX);
        due("copy(0, MOST, 1, 0, MOST)", it.copy(0, MOST, 1, 0, MOST), INDEX);
        due("copy(0, 1, 1, 1, MOST)", it.copy(0, 1, 1, 1, MOST), INDEX);
        due("count(8)", it.count(8), 2);
        due("copy(0, 9, 2, 0, 1)", it.copy(0, 9, 2, 0, 1), STORE);
        due("count(8)", it.count(8), 4);
        due("copy(0, 9, 3, 0, 1)", it.copy(0, 9, 3, 0, 1), NULL);
        due("copy(3, 9, 2, 0, 1)", it.copy(3, 9, 2, 0, 1), NULL);
        due("count(8)", it.count(8), 1);
        due("copy(4, 0, 0, 0, 0)", it.copy(4, 0, 0, 0, 0), BAD);
        due("copy(3, 0, 4, 0, 0)", it.copy(3, 0, 4, 0, 0), BAD);
        due("copy(-1, 0, 0, 0, 0)", it.copy(-1, 0, 0, 0, 0), BAD);
        row(1, 2, 3, 4, 0);
    }

    private static void writing() {
        begin(RING, "ab");
        it.sheet(0, 2, 10);
        for (int i = 0; i < 10; i++) {
            it.put(0, 2, i, 77);
        }
        due("write(0, 0)", it.write(0, 0), 8);
        row(0, 3, 4, 0, 2, NONE, NONE, NONE, NONE, 77, 77);
        it.sheet(0, 2, 3);
        due("write(0, 0) of three", it.write(0, 0), 3);
        row(0, 3, 4, 0);
        it.sheet(0, 0, 0);
        due("write(0, 0) of none", it.write(0, 0), 0);
        due("write(0, 1)", it.write(0, 1), NULL);
        due("count(8)", it.count(8), 1);
        due("write(0, 4)", it.write(0, 4), BAD);
        due("write(0, -1)", it.write(0, -1), BAD);
        for (int walker : NO_WALKERS) {
            due("write(" + walker + ", 1)", it.write(walker, 1), BAD);
        }
        begin("019;129;239;349;459;569;679;769;659;549;439;329", "abcdefghijkl");
        it.sheet(3, 0, 8);
        due("write(0, 3) of bytes", it.write(0, 3), 8);
        due("get(3, 0, 0)", it.get(3, 0, 0), 108);
        due("get(3, 0, 1)", it.get(3, 0, 1), 99);
        due("get(3, 0, 7)", it.get(3, 0, 7), 45);
        it.home(1, 7);
        it.sheet(2, 1, 2);
        due("write(1, 2) of shorts", it.write(1, 2), 2);
        due("get(2, 1, 0)", it.get(2, 1, 0), 63);
    }

    private static void counting() {
        begin(RING, "a", "ab", "abc", "abcd");
        it.seen(0, 0);
        it.seen(0, 0);
        int[] counts = {4, 15, 1, 2, 3, 4, 2, 10, 0};
        for (int what = 0; what <= 8; what++) {
            due("count(" + what + ")", it.count(what), counts[what]);
        }
        due("count(9)", it.count(9), BAD);
        due("count(-1)", it.count(-1), BAD);
        due("count(MOST)", it.count(MOST), BAD);
        due("count(LEAST)", it.count(LEAST), BAD);
        type(0, ";");
        due("count(0) with a fault", it.count(0), 0);
        due("count(7) with a fault", it.count(7), 0);
        due("count(1) with a fault", it.count(1), 16);
    }

    /** The digest, by what the other calls answer. */
    private static long digest() {
        long h = 17;
        for (int what = 0; what <= 7; what++) {
            h = 31 * h + it.count(what);
        }
        h = 31 * h + it.fault();
        for (int i = 0; i < 3 * it.count(0); i++) {
            h = 31 * h + it.way(i / 3, i % 3);
        }
        for (int w = 0; w < 4; w++) {
            int next = (w + 1) % 4;
            int[] first = {it.judged(w), it.place(w), it.open(w, NONE), it.gone(w), it.spent(w), it.still(w), it.never(w)};
            int[] last = {it.thread(w, 0), it.thread(w, 1), it.errands(w, 21, NONE), it.meeting(w, next, 0),
                it.meeting(w, next, 1), it.lent(w, next)};
            for (int i = 0; i < 7 + 8 + 6; i++) {
                h = 31 * h + (i < 7 ? first[i] : i < 15 ? it.soon(w, i - 7) : last[i - 15]);
            }
        }
        return 31 * h + it.cameIn();
    }

    private static void digests() {
        begin("");
        due("digest()", it.digest(), digest());
        begin(RING, "ab", "abx", "abba", "dc");
        it.seen(0, 1);
        it.home(2, 3);
        due("digest() of a ring", it.digest(), digest());
        due("digest() again", it.digest(), digest());
        it.lose(0);
        due("digest() behind a finding", it.digest(), digest());
        type(0, ";451;561;671");
        due("digest() of seven ways", it.digest(), digest());
        type(0, ";");
        due("digest() with a fault", it.digest(), digest());
        begin(TWELVE, "abcdef", "l", "lkj", "aab");
        due("digest() of twelve", it.digest(), digest());
    }

    public static void main(String[] args) {
        aNewObject();
        typing();
        wiping();
        faults();
        ways();
        homes();
        reading();
        judging();
        standing();
        mayStep();
        coming();
        keeping();
        errands();
        meeting();
        lending();
        losing();
        sights();
        wolves();
        sheets();
        items();
        copying();
        writing();
        counting();
        digests();
        checks.end();
    }
}
