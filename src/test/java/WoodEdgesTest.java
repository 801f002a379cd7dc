/**
 * Edges of the wood (promises 1 to 7, and what 'Terms' tells of texts, the wood and its fault): of each
 * sentence that names one a test of its own.
 */
public final class WoodEdgesTest {
    private static final int NONE = -1, BAD = -2, FULL = -4, NULL = -11;
    private static final Checks checks = new Checks();

    private static void edge(String sentence) {
        checks.about(sentence);
    }

    private static void due(String call, long got, long want) {
        checks.due(call, got, want);
    }

    // ---- promise 1

    private static void emptyTexts() {
        edge("1 NewOrBack(): empty texts");
        NewOrBack it = new NewOrBack();
        for (int text = 0; text < 5; text++) {
            due("count(" + (text + 1) + ")", it.count(text + 1), 0);
            due("wipe(" + text + ")", it.wipe(text), 0);
        }
        due("fault()", it.fault(), NONE);
        due("count(0)", it.count(0), 0);
        due("count(7)", it.count(7), 0);
        for (int walker = 0; walker < 4; walker++) {
            due("judged(" + walker + ")", it.judged(walker), NONE);
        }
    }

    private static void homesInPlace0() {
        edge("1 NewOrBack(): all HOMES in PLACE 0");
        NewOrBack it = new NewOrBack();
        for (int walker = 0; walker < 4; walker++) {
            due("place(" + walker + ")", it.place(walker), 0);
            due("still(" + walker + ")", it.still(walker), 1);
            due("home(" + walker + ", 5)", it.home(walker, 5), 0);
        }
    }

    private static void lostSheets() {
        edge("1 NewOrBack(): all SHEETS are LOST");
        for (int s = 0; s < 4; s++) {
            NewOrBack it = new NewOrBack();
            due("count(8) before any", it.count(8), 0);
            due("lose(" + s + ")", it.lose(s), NULL);
            due("count(8)", it.count(8), 1);
        }
    }

    private static void noSights() {
        edge("1 NewOrBack(): nothing seen");
        NewOrBack it = new NewOrBack();
        due("count(6)", it.count(6), 0);
        due("forget()", it.forget(), 0);
        due("cameIn()", it.cameIn(), 255);
    }

    private static void constants() {
        edge("the face: NONE, BAD, NOT, FULL");
        due("NONE", NewOrBack.NONE, -1);
        due("BAD", NewOrBack.BAD, -2);
        due("NOT", NewOrBack.NOT, -3);
        due("FULL", NewOrBack.FULL, -4);
    }

    private static void eachItsOwn() {
        edge("1 NewOrBack(): a new object has nothing of another");
        NewOrBack other = Bench.made(Bench.RING, "ab");
        other.home(1, 3);
        other.seen(0, 1);
        NewOrBack it = new NewOrBack();
        due("digest()", it.digest(), new NewOrBack().digest());
        due("count(1)", it.count(1), 0);
        due("place(0) of the other", other.place(0), 2);
    }

    // ---- promise 2

    private static void bytes0To255() {
        edge("2 type: a byte (0 to 255)");
        for (int text = 0; text < 5; text++) {
            NewOrBack it = new NewOrBack();
            due("type(" + text + ", 0)", it.type(text, 0), 1);
            due("type(" + text + ", 255)", it.type(text, 255), 2);
            for (int b : new int[] {-1, 256, Bench.LEAST, Bench.MOST}) {
                due("type(" + text + ", " + b + ")", it.type(text, b), BAD);
            }
            due("count(" + (text + 1) + ")", it.count(text + 1), 2);
        }
    }

    private static void texts0To4() {
        edge("2 type: a text (0 to 4)");
        NewOrBack it = new NewOrBack();
        for (int text : new int[] {-1, 5, Bench.LEAST, Bench.MOST}) {
            due("type(" + text + ", 97)", it.type(text, 97), BAD);
        }
        for (int text = 0; text < 5; text++) {
            due("type(" + text + ", 97)", it.type(text, 97), 1);
        }
    }

    private static void bytesComeBehind() {
        edge("2 type: comes behind a text: how many");
        NewOrBack it = Bench.made("", "");
        for (int i = 1; i <= 47; i++) {
            due("type(0, ..)", it.type(0, Bench.TWELVE.charAt(i - 1)), i);
        }
        due("count(0)", it.count(0), 12);
        due("type(1, 'l')", it.type(1, 'l'), 1);
        due("type(1, 'a')", it.type(1, 'a'), 2);
        due("open(0, 0)", it.open(0, 0), 11);
        due("open(0, 1)", it.open(0, 1), 0);
    }

    private static void woodOf60Bytes() {
        edge("THE WOOD is a text of up to 60 bytes; 2 type: FULL");
        NewOrBack it = new NewOrBack();
        for (int i = 1; i <= 60; i++) {
            due("type(0, 48) the " + i + ".", it.type(0, 48), i);
        }
        due("type(0, 48) the 61.", it.type(0, 48), FULL);
        due("count(1)", it.count(1), 60);
        due("wipe(0)", it.wipe(0), 60);
        due("type(0, 48) again", it.type(0, 48), 1);
    }

    private static void walkOf24Bytes() {
        edge("A walk is a text of up to 24 bytes; 2 type: FULL");
        String thereAndBack = "abcdefghijkllkjihgfedcba";
        for (int text = 1; text < 5; text++) {
            NewOrBack it = Bench.made(Bench.TWELVE);
            for (int i = 1; i <= 24; i++) {
                due("type(" + text + ") the " + i + ".", it.type(text, thereAndBack.charAt(i - 1)), i);
            }
            due("type(" + text + ", 120) the 25.", it.type(text, 120), FULL);
            due("count(" + (text + 1) + ")", it.count(text + 1), 24);
            due("judged(" + (text - 1) + ")", it.judged(text - 1), NONE);
            due("wipe(" + text + ")", it.wipe(text), 24);
            due("type(" + text + ", 97) again", it.type(text, 97), 1);
        }
    }

    private static void badAheadOfFull() {
        edge("Refusals, the first that fits: 2 type: BAD; FULL");
        NewOrBack it = new NewOrBack();
        for (int i = 0; i < 24; i++) {
            it.type(4, 97);
        }
        due("type(4, 97)", it.type(4, 97), FULL);
        due("type(4, 256)", it.type(4, 256), BAD);
        due("type(4, -1)", it.type(4, -1), BAD);
        due("type(5, 97)", it.type(5, 97), BAD);
    }

    // ---- promise 3

    private static void wipeTellsHowMany() {
        edge("3 wipe: a text is empty: how many bytes it had");
        for (int text = 0; text < 5; text++) {
            NewOrBack it = Bench.made(Bench.RING, "ab", "ab", "ab", "ab");
            int had = text == 0 ? 15 : 2;
            due("wipe(" + text + ")", it.wipe(text), had);
            due("count(" + (text + 1) + ")", it.count(text + 1), 0);
            due("wipe(" + text + ") of an empty text", it.wipe(text), 0);
            for (int other = 0; other < 5; other++) {
                due("count(" + (other + 1) + ")", it.count(other + 1), other == text ? 0 : other == 0 ? 15 : 2);
            }
        }
    }

    private static void wipedWalkBeginsAtHome() {
        edge("3 wipe: with an empty text one stands at HOME");
        NewOrBack it = Bench.made(Bench.RING, "abx", "ab");
        it.wipe(1);
        due("judged(0)", it.judged(0), NONE);
        due("place(0)", it.place(0), 0);
        due("gone(0)", it.gone(0), 0);
        due("soon(0, 1)", it.soon(0, 1), 3);
        due("place(1)", it.place(1), 2);
    }

    private static void wipedWood() {
        edge("3 wipe: an empty wood is well, and has no WAYS");
        NewOrBack it = Bench.made(Bench.RING + ";", "ab");
        it.wipe(0);
        due("fault()", it.fault(), NONE);
        due("count(0)", it.count(0), 0);
        due("judged(0)", it.judged(0), 0);
        Bench.type(it, 0, "019");
        due("count(7) of another", it.count(7), 9);
        due("judged(0) in another", it.judged(0), 1);
    }

    private static void wipeBad() {
        edge("3 wipe: BAD");
        NewOrBack it = Bench.made(Bench.RING, "a", "a", "a", "a");
        long before = it.digest();
        for (int text : new int[] {-1, 5, Bench.LEAST, Bench.MOST}) {
            due("wipe(" + text + ")", it.wipe(text), BAD);
        }
        due("digest()", it.digest(), before);
    }

    // ---- promise 4

    private static void faultIs(String wood, int fault) {
        NewOrBack it = Bench.made(wood);
        due("fault() of " + wood, it.fault(), fault);
        due("count(0) of " + wood, it.count(0), fault == NONE ? (wood.length() + 1) / 4 : 0);
    }

    private static void emptyWoodIsWell() {
        edge("FAULT: an empty text is well");
        faultIs("", NONE);
    }

    private static void faultOfOneNotEnded() {
        edge("FAULT: of one that is not ended, its end");
        faultIs("0", 1);
        faultIs("01", 2);
        faultIs("011", NONE);
        faultIs("011;", 4);
        faultIs("011;7", 5);
        faultIs("011;76", 6);
        faultIs("011;769", NONE);
        faultIs(Bench.TWELVE.substring(0, 46), 46);
        faultIs(Bench.TWELVE.substring(0, 44), 44);
        faultIs(Bench.TWELVE, NONE);
    }

    private static void placesAre0To7() {
        edge("the figures of two PLACES (0 to 7)");
        faultIs("071", NONE);
        faultIs("701", NONE);
        faultIs("801", 0);
        faultIs("/01", 0);
        faultIs("081", 1);
        faultIs("0/1", 1);
        faultIs("011;901", 4);
        faultIs("011;091", 5);
        faultIs("a11", 0);
        faultIs("0 1", 1);
    }

    private static void minutesAre1To9() {
        edge("its MINUTES (1 to 9)");
        faultIs("011", NONE);
        faultIs("019", NONE);
        faultIs("010", 2);
        faultIs("01:", 2);
        faultIs("01a", 2);
        faultIs("011;120", 6);
        faultIs("011;12:", 6);
    }

    private static void semicolonsBetween() {
        edge("WAYS with ; between them");
        faultIs("011;121", NONE);
        faultIs("011121", 3);
        faultIs("011:121", 3);
        faultIs("011<121", 3);
        faultIs(";", 0);
        faultIs(";011", 0);
        faultIs("011;;121", 4);
        faultIs("011 ;121", 3);
        faultIs("0;", 1);
        faultIs("01;", 2);
    }

    private static void placesNotOne() {
        edge("FAULT: of the second PLACE, if it is the first (not one)");
        for (int place = 0; place < 8; place++) {
            faultIs("" + place + place, 1);
            faultIs("" + place + place + 1, 1);
        }
        faultIs("011;22", 5);
        faultIs("011;221", 5);
        faultIs(Bench.TWELVE.substring(0, 44) + "771", 45);
    }

    private static void placesToldAlready() {
        edge("PLACES: perhaps such as are told already");
        faultIs("011;011", NONE);
        faultIs("011;101", NONE);
        faultIs("011;121;201", NONE);
        NewOrBack it = Bench.made("015;013;107", "abc");
        due("judged(0)", it.judged(0), NONE);
        due("place(0)", it.place(0), 1);
        due("gone(0)", it.gone(0), 7);
    }

    private static void thirteenthWay() {
        edge("FAULT: of the first byte of a thirteenth WAY (12 at most)");
        faultIs(Bench.TWELVE, NONE);
        faultIs(Bench.TWELVE + ";", 48);
        faultIs(Bench.TWELVE + ";0", 48);
        faultIs(Bench.TWELVE + ";01", 48);
        faultIs(Bench.TWELVE + ";011", 48);
        faultIs(Bench.TWELVE + ";011;011", 48);
        faultIs(Bench.TWELVE + ";011;011;011", 48);
        faultIs(Bench.TWELVE + ";x", 48);
        faultIs(Bench.TWELVE + ";00", 48);
        faultIs(Bench.TWELVE + "x", 47);
    }

    private static void firstOfFaults() {
        edge("FAULT: the first byte with which it cannot go on");
        faultIs("019;22x", 5);
        faultIs("8811", 0);
        faultIs("01x;22", 2);
        faultIs("011;8", 4);
        faultIs("x" + Bench.TWELVE.substring(1) + ";011", 0);
        faultIs(Bench.TWELVE.substring(0, 46) + "0;011", 46);
        faultIs("011;121x;", 7);
    }

    private static void bytesBeyondSigns() {
        edge("FAULT: any byte (0 to 255)");
        for (int b = 0; b < 256; b++) {
            NewOrBack it = new NewOrBack();
            it.type(0, b);
            due("fault() of byte " + b, it.fault(), b >= '0' && b <= '7' ? 1 : 0);
            it = Bench.made("011");
            it.type(0, b);
            due("fault() of 011 and byte " + b, it.fault(), b == ';' ? 4 : 3);
            it = Bench.made("01");
            it.type(0, b);
            due("fault() of 01 and byte " + b, it.fault(), b >= '1' && b <= '9' ? NONE : 2);
            it = Bench.made("0");
            it.type(0, b);
            due("fault() of 0 and byte " + b, it.fault(), b >= '1' && b <= '7' ? 2 : 1);
        }
    }

    private static void faultAsIfEmpty() {
        edge("with a FAULT it is as if it was empty");
        for (String wood : new String[] {Bench.RING + ";", Bench.RING + ";0", Bench.RING + ";44", Bench.TWELVE + ";011"}) {
            NewOrBack it = Bench.made(wood, "ab", "");
            it.home(1, 2);
            due("count(0)", it.count(0), 0);
            due("count(7)", it.count(7), 0);
            due("count(1)", it.count(1), wood.length());
            due("way(0, 0)", it.way(0, 0), BAD);
            due("may(0, 0)", it.may(0, 0), BAD);
            due("keeps(0, 0, 0)", it.keeps(0, 0, 0), BAD);
            due("judged(0)", it.judged(0), 0);
            due("place(0)", it.place(0), 0);
            due("gone(0)", it.gone(0), 0);
            due("spent(0)", it.spent(0), 0);
            due("open(0, NONE)", it.open(0, NONE), 0);
            due("soon(0, 1)", it.soon(0, 1), NONE);
            due("still(1)", it.still(1), 4);
            due("never(0)", it.never(0), 0);
            due("errands(0, 1, NONE)", it.errands(0, 1, NONE), 0);
            due("errands(0, 2, NONE)", it.errands(0, 2, NONE), NONE);
            due("meeting(0, 1, 0)", it.meeting(0, 1, 0), NONE);
            due("lent(0, 1)", it.lent(0, 1), 4);
            due("lost(0, 0)", it.lost(0, 0), 0);
            due("lost(0, 1)", it.lost(0, 1), BAD);
            due("thread(0, 0)", it.thread(0, 0), NONE);
            due("safe(0, 0)", it.safe(0, 0), 0);
            due("safe(0, 1)", it.safe(0, 1), 1);
            due("cameIn()", it.cameIn(), 255);
            it.seen(0, 1);
            due("cameIn() of a sight", it.cameIn(), 0);
        }
    }

    private static void faultMended() {
        edge("with a FAULT it is as if it was empty, but its bytes stay");
        NewOrBack it = Bench.made(Bench.RING + ";", "abe");
        due("judged(0)", it.judged(0), 0);
        Bench.type(it, 0, "257");
        due("fault()", it.fault(), NONE);
        due("count(0)", it.count(0), 5);
        due("judged(0)", it.judged(0), NONE);
        due("place(0)", it.place(0), 5);
    }

    // ---- promise 5

    private static void wayTellsPlacesAndMinutes() {
        edge("5 way: its PLACES (what = 0, 1), MINUTES (2)");
        NewOrBack it = Bench.made("709;012;531");
        int[] told = {7, 0, 9, 0, 1, 2, 5, 3, 1};
        for (int i = 0; i < 9; i++) {
            due("way(" + i / 3 + ", " + i % 3 + ")", it.way(i / 3, i % 3), told[i]);
        }
    }

    private static void wayBad() {
        edge("5 way: BAD");
        NewOrBack it = Bench.made(Bench.RING);
        for (int way : new int[] {-1, 4, 11, 12, Bench.LEAST, Bench.MOST}) {
            due("way(" + way + ", 0)", it.way(way, 0), BAD);
        }
        for (int what : new int[] {-1, 3, Bench.LEAST, Bench.MOST}) {
            due("way(0, " + what + ")", it.way(0, what), BAD);
        }
        due("way(0, 0) of an empty wood", new NewOrBack().way(0, 0), BAD);
        it = Bench.made(Bench.TWELVE);
        due("way(11, 2) of twelve", it.way(11, 2), 2);
        due("way(12, 2) of twelve", it.way(12, 2), BAD);
    }

    // ---- promise 6

    private static void homeTellsWhereItWas() {
        edge("6 home: a WALKER begins in a PLACE: where it was");
        NewOrBack it = Bench.made(Bench.RING, "c", "c", "c", "c");
        for (int walker = 0; walker < 4; walker++) {
            due("home(" + walker + ", 7)", it.home(walker, 7), 0);
            due("place(" + walker + ")", it.place(walker), 7);
            due("judged(" + walker + ")", it.judged(walker), 0);
            due("home(" + walker + ", 2)", it.home(walker, 2), 7);
            due("place(" + walker + ")", it.place(walker), 3);
            due("judged(" + walker + ")", it.judged(walker), NONE);
            due("home(" + walker + ", 2)", it.home(walker, 2), 2);
            due("place(next)", it.place((walker + 1) % 4), walker == 3 ? 3 : 0);
        }
    }

    private static void homeBad() {
        edge("6 home: BAD");
        NewOrBack it = Bench.made(Bench.RING);
        it.home(0, 3);
        for (int walker : Bench.NO_WALKERS) {
            due("home(" + walker + ", 1)", it.home(walker, 1), BAD);
        }
        for (int place : Bench.NO_PLACES) {
            due("home(0, " + place + ")", it.home(0, place), BAD);
        }
        due("place(0)", it.place(0), 3);
        due("home(0, 0)", it.home(0, 0), 3);
    }

    // ---- promise 7

    private static void readUpToFirstThatIsNone() {
        edge("7 read: its items, as WAYS (0 to 11), up to the first that is none such");
        NewOrBack it = Bench.made(Bench.TWELVE);
        Bench.fill(it, 0, 0, 0, 11, 12, 1);
        due("read(0, 0) up to 12", it.read(0, 0), 2);
        due("count(2)", it.count(2), 2);
        due("gone(0)", it.gone(0), 1 | 1 << 11);
        Bench.fill(it, 1, 1, 1, 1, -1, 1);
        due("read(1, 0) up to -1", it.read(1, 0), 2);
        due("gone(0)", it.gone(0), 2);
        Bench.fill(it, 2, 2, Bench.MOST, 1);
        due("read(2, 0) of none such", it.read(2, 0), 0);
        Bench.fill(it, 3, 2, Bench.LEAST);
        due("read(3, 0) of none such", it.read(3, 0), 0);
        Bench.fill(it, 3, 2, 'a');
        due("read(3, 0) of a letter", it.read(3, 0), 0);
    }

    private static void readOfWaysThatAreNotThere() {
        edge("7 read: WAYS (0 to 11), perhaps such as there are not");
        NewOrBack it = Bench.made("011");
        Bench.fill(it, 0, 2, 0, 11, 0);
        due("read(0, 3)", it.read(0, 3), 3);
        due("count(5)", it.count(5), 3);
        due("judged(3)", it.judged(3), 1);
    }

    private static void readOf24AtMost() {
        edge("7 read: 24 at most");
        for (int n = 23; n <= 26; n++) {
            NewOrBack it = Bench.made(Bench.TWELVE);
            it.sheet(0, 0, n);
            due("read(0, 0) of " + n, it.read(0, 0), Math.min(n, 24));
            due("count(2)", it.count(2), Math.min(n, 24));
        }
        NewOrBack it = Bench.made(Bench.TWELVE);
        it.sheet(0, 1, 48);
        due("read(0, 1) of 48", it.read(0, 1), 24);
        due("judged(1)", it.judged(1), 2);
        due("type(2, 97)", it.type(2, 97), FULL);
    }

    private static void readOfAnEmptySheet() {
        edge("7 read: of a SHEET with 0 items");
        NewOrBack it = Bench.made(Bench.RING, "ab");
        it.sheet(0, 0, 0);
        due("read(0, 0)", it.read(0, 0), 0);
        due("count(2)", it.count(2), 0);
        due("place(0)", it.place(0), 0);
    }

    private static void readWhatItWasIsGone() {
        edge("7 read: what it was is gone");
        NewOrBack it = Bench.made(Bench.RING, "dcba", "dcba");
        Bench.fill(it, 0, 0, 0);
        due("read(0, 0)", it.read(0, 0), 1);
        due("count(2)", it.count(2), 1);
        due("gone(0)", it.gone(0), 1);
        due("gone(1)", it.gone(1), 15);
        due("type(1, 'b')", it.type(1, 'b'), 2);
        due("place(0)", it.place(0), 2);
    }

    private static void readRefused() {
        edge("7 read: BAD; NULL");
        NewOrBack it = Bench.made(Bench.RING, "ab");
        Bench.fill(it, 0, 0, 3);
        for (int s : Bench.NO_SHEETS) {
            due("read(" + s + ", 0)", it.read(s, 0), BAD);
        }
        for (int walker : Bench.NO_WALKERS) {
            due("read(0, " + walker + ")", it.read(0, walker), BAD);
            due("read(1, " + walker + ") of a LOST SHEET", it.read(1, walker), BAD);
        }
        due("count(8)", it.count(8), 0);
        due("read(1, 0)", it.read(1, 0), NULL);
        due("count(8)", it.count(8), 1);
        due("place(0)", it.place(0), 2);
        due("count(2)", it.count(2), 2);
    }

    public static void main(String[] args) {
        emptyTexts();
        homesInPlace0();
        lostSheets();
        noSights();
        constants();
        eachItsOwn();
        bytes0To255();
        texts0To4();
        bytesComeBehind();
        woodOf60Bytes();
        walkOf24Bytes();
        badAheadOfFull();
        wipeTellsHowMany();
        wipedWalkBeginsAtHome();
        wipedWood();
        wipeBad();
        emptyWoodIsWell();
        faultOfOneNotEnded();
        placesAre0To7();
        minutesAre1To9();
        semicolonsBetween();
        placesNotOne();
        placesToldAlready();
        thirteenthWay();
        firstOfFaults();
        bytesBeyondSigns();
        faultAsIfEmpty();
        faultMended();
        wayTellsPlacesAndMinutes();
        wayBad();
        homeTellsWhereItWas();
        homeBad();
        readUpToFirstThatIsNone();
        readOfWaysThatAreNotThere();
        readOf24AtMost();
        readOfAnEmptySheet();
        readWhatItWasIsGone();
        readRefused();
        checks.end();
    }
}
