/**
 * Edges of walks (promises 8 to 13, and what 'Terms' tells of the law of the steps): of each sentence that
 * names one a test of its own.
 */
public final class WalkEdgesTest {
    private static final int NONE = -1, BAD = -2, NO = 0, NEW = 1, BACK = 2;
    private static final Checks checks = new Checks();

    private static void edge(String sentence) {
        checks.about(sentence);
    }

    private static void due(String call, long got, long want) {
        checks.due(call, got, want);
    }

    /** What may() tells of ways a on. */
    private static void mayBe(NewOrBack it, int walker, int... kinds) {
        for (int way = 0; way < kinds.length; way++) {
            due("may(" + walker + ", " + way + ")", it.may(walker, way), kinds[way]);
        }
    }

    /** What one that walks by a text is judged, and where one stands, with the last open way. */
    private static void walkIs(String walk, int judged, int place, int opens, int last) {
        NewOrBack it = Bench.made(Bench.RING, walk);
        due("judged(0) of " + walk, it.judged(0), judged);
        due("place(0) of " + walk, it.place(0), place);
        due("open(0, NONE) of " + walk, it.open(0, NONE), opens);
        due("open(0, last) of " + walk, it.open(0, Math.max(opens - 1, 0)), last);
    }

    // ---- the law

    private static void toItsOtherEnd() {
        edge("THE LAW: a step goes by a WAY of the PLACE where one is to its other end");
        NewOrBack it = Bench.made("251", "a", "a");
        it.home(0, 2);
        it.home(1, 5);
        due("place(0)", it.place(0), 5);
        due("place(1)", it.place(1), 2);
        due("judged(2) at another PLACE", it.judged(2), NONE);
        mayBe(it, 2, NO);
        Bench.type(it, 3, "a");
        due("judged(2) at another PLACE", it.judged(2), 0);
    }

    private static void newIfNeverGone() {
        edge("THE LAW: NEW, if one has never gone that WAY");
        NewOrBack it = Bench.made("011;011", "", "aa", "aabb");
        mayBe(it, 0, NEW, NEW);
        mayBe(it, 1, NO, NEW);
        mayBe(it, 2, NO, NO);
        walkIs("aaa", 2, 0, 0, NONE);
        walkIs("aad", NONE, 3, 1, 3);
    }

    private static void backIfLastOpen() {
        edge("THE LAW: BACK, if that WAY is the last of the OPEN ones, and not NEW");
        NewOrBack it = Bench.made("011;011;011", "a", "ab", "abb", "abba");
        mayBe(it, 0, BACK, NEW, NEW);
        mayBe(it, 1, NO, BACK, NEW);
        mayBe(it, 2, BACK, NO, NEW);
        mayBe(it, 3, NO, NO, NEW);
    }

    private static void newStepOpens() {
        edge("THE LAW: a NEW step makes its WAY the last OPEN one");
        walkIs("", NONE, 0, 0, NONE);
        walkIs("a", NONE, 1, 1, 0);
        walkIs("ab", NONE, 2, 2, 1);
        walkIs("abcd", NONE, 0, 4, 3);
        walkIs("ddabc", NONE, 3, 3, 2);
    }

    private static void backStepTakesAway() {
        edge("THE LAW: a BACK step takes the last OPEN one away");
        walkIs("abb", NONE, 1, 1, 0);
        walkIs("abba", NONE, 0, 0, NONE);
        walkIs("abcddc", NONE, 2, 2, 1);
        walkIs("abccbad", NONE, 3, 1, 3);
    }

    private static void otherSteps() {
        edge("THE LAW: other steps may not be");
        walkIs("abcda", 4, 0, 4, 3);
        walkIs("abbb", 3, 1, 1, 0);
        walkIs("abbab", 4, 0, 0, NONE);
        walkIs("aaa", 2, 0, 0, NONE);
        walkIs("ac", 1, 1, 1, 0);
    }

    private static void allWaysGoneAndComeBackBy() {
        edge("THE LAW: whoever has gone all ways there and back stays");
        NewOrBack it = Bench.made(Bench.TWELVE, "abcdefghijkllkjihgfedcba");
        due("judged(0)", it.judged(0), NONE);
        due("place(0)", it.place(0), 0);
        due("open(0, NONE)", it.open(0, NONE), 0);
        due("gone(0)", it.gone(0), 4095);
        due("spent(0)", it.spent(0), 26);
        mayBe(it, 0, NO, NO, NO, NO, NO, NO, NO, NO, NO, NO, NO, NO);
        due("still(0)", it.still(0), 1);
        due("never(0)", it.never(0), 2);
    }

    private static void eachWalkerItsOwn() {
        edge("WALKERS are 0 to 3, each walks by a text of its own (texts 1 to 4)");
        NewOrBack it = Bench.made(Bench.RING, "a", "ab", "abc", "d");
        int[] places = {1, 2, 3, 3};
        int[] gones = {1, 3, 7, 8};
        for (int walker = 0; walker < 4; walker++) {
            due("place(" + walker + ")", it.place(walker), places[walker]);
            due("gone(" + walker + ")", it.gone(walker), gones[walker]);
        }
    }

    // ---- promise 8

    private static void judgedNone() {
        edge("8 judged: NONE");
        NewOrBack it = Bench.made(Bench.RING, "", "a", "abcd", "abcddcba");
        for (int walker = 0; walker < 4; walker++) {
            due("judged(" + walker + ")", it.judged(walker), NONE);
        }
    }

    private static void judgedAnotherByte() {
        edge("JUDGED: another byte");
        for (int b = 0; b < 256; b++) {
            if (b < 'a' || b > 'l') {
                NewOrBack it = Bench.made(Bench.TWELVE, "l");
                it.type(1, b);
                due("judged(0) of byte " + b, it.judged(0), 1);
                due("place(0)", it.place(0), 1);
            }
        }
    }

    private static void judgedNoSuchWay() {
        edge("JUDGED: a WAY that is not there");
        walkIs("e", 0, 0, 0, NONE);
        walkIs("l", 0, 0, 0, NONE);
        walkIs("abe", 2, 2, 2, 1);
        NewOrBack it = Bench.made("", "a");
        due("judged(0) without WAYS", it.judged(0), 0);
        Bench.type(it, 0, "011");
        due("judged(0) with one", it.judged(0), NONE);
    }

    private static void judgedNotAtOnesPlace() {
        edge("JUDGED: a WAY not at one's PLACE");
        walkIs("b", 0, 0, 0, NONE);
        walkIs("c", 0, 0, 0, NONE);
        walkIs("abd", 2, 2, 2, 1);
    }

    private static void judgedNeitherNewNorBack() {
        edge("JUDGED: neither NEW nor BACK");
        walkIs("abcda", 4, 0, 4, 3);
        walkIs("aada", 3, 3, 1, 3);
        walkIs("dda", NONE, 1, 1, 0);
        walkIs("ddad", 3, 1, 1, 0);
        walkIs("ddaad", 4, 0, 0, NONE);
    }

    private static void judgedTheFirst() {
        edge("JUDGED: the first byte (0 on)");
        walkIs("xyz", 0, 0, 0, NONE);
        walkIs("axyz", 1, 1, 1, 0);
        walkIs("abxcx", 2, 2, 2, 1);
        NewOrBack it = Bench.made(Bench.TWELVE, "abcdefghijkllkjihgfedcbx");
        due("judged(0) of the last of 24", it.judged(0), 23);
    }

    private static void judgedBad() {
        edge("8 judged: BAD");
        for (int walker : Bench.NO_WALKERS) {
            due("judged(" + walker + ")", Bench.made(Bench.RING, "x").judged(walker), BAD);
        }
    }

    // ---- promise 9

    private static void placeBehindAllStepsAhead() {
        edge("9 place: one STANDS behind all steps ahead of the byte JUDGED");
        walkIs("abxcd", 2, 2, 2, 1);
        walkIs("xab", 0, 0, 0, NONE);
        walkIs("acb", 1, 1, 1, 0);
        NewOrBack it = Bench.made(Bench.RING, "cab");
        it.home(0, 2);
        due("place(0) from PLACE 2", it.place(0), 3);
        due("judged(0) from PLACE 2", it.judged(0), 1);
    }

    private static void placeWithoutSteps() {
        edge("9 place: without steps it is HOME");
        NewOrBack it = new NewOrBack();
        for (int place = 0; place < 8; place++) {
            it.home(3, place);
            due("place(3)", it.place(3), place);
        }
    }

    private static void placeBad() {
        edge("9 place: BAD");
        for (int walker : Bench.NO_WALKERS) {
            due("place(" + walker + ")", Bench.made(Bench.RING).place(walker), BAD);
        }
    }

    // ---- promise 10

    private static void openHowMany() {
        edge("10 open: how many (i = NONE)");
        NewOrBack it = Bench.made(Bench.TWELVE, "", "abcdefghijkl", "abcc", "aa");
        int[] opens = {0, 12, 2, 0};
        for (int walker = 0; walker < 4; walker++) {
            due("open(" + walker + ", NONE)", it.open(walker, NONE), opens[walker]);
        }
    }

    private static void openTheIth() {
        edge("10 open: the i-th (0 the first; NONE beyond)");
        NewOrBack it = Bench.made(Bench.TWELVE, "", "lkjihgfedcba", "bdccl");
        for (int i = 0; i < 12; i++) {
            due("open(1, " + i + ")", it.open(1, i), 11 - i);
        }
        for (int i : new int[] {12, 13, 24, Bench.MOST}) {
            due("open(1, " + i + ")", it.open(1, i), NONE);
        }
        int[] open = {1, 3, 11, NONE, NONE};
        for (int i = 0; i < 5; i++) {
            due("open(2, " + i + ")", it.open(2, i), open[i]);
        }
        due("open(0, 0)", it.open(0, 0), NONE);
        Bench.type(it, 3, "l");
        due("open(2, 2) behind a step BACK", it.open(2, 2), NONE);
        due("open(2, 1)", it.open(2, 1), 3);
    }

    private static void openBad() {
        edge("10 open: BAD");
        NewOrBack it = Bench.made(Bench.RING, "ab");
        for (int walker : Bench.NO_WALKERS) {
            due("open(" + walker + ", NONE)", it.open(walker, NONE), BAD);
            due("open(" + walker + ", 0)", it.open(walker, 0), BAD);
        }
        due("open(0, -2)", it.open(0, -2), BAD);
        due("open(0, LEAST)", it.open(0, Bench.LEAST), BAD);
    }

    // ---- promise 11

    private static void goneAsBits() {
        edge("11 gone: WAYS that were GONE (NEW at some time), as bits");
        NewOrBack it = Bench.made(Bench.TWELVE, "", "l", "ll", "abcdefghijkl");
        int[] gones = {0, 2048, 2048, 4095};
        for (int walker = 0; walker < 4; walker++) {
            due("gone(" + walker + ")", it.gone(walker), gones[walker]);
        }
        Bench.retype(it, 4, "abxc");
        due("gone(3) until one STANDS", it.gone(3), 3);
    }

    private static void goneBad() {
        edge("11 gone: BAD");
        for (int walker : Bench.NO_WALKERS) {
            due("gone(" + walker + ")", Bench.made(Bench.RING, "a").gone(walker), BAD);
        }
    }

    // ---- promise 12

    private static void spentUntilOneStands() {
        edge("12 spent: MINUTES of all steps until one STANDS");
        NewOrBack it = Bench.made(Bench.RING, "", "ab", "abbadd", "abxcd");
        int[] spents = {0, 7, 16, 7};
        for (int walker = 0; walker < 4; walker++) {
            due("spent(" + walker + ")", it.spent(walker), spents[walker]);
        }
        it = Bench.made("019;019;019;019;019;019;019;019;019;019;019;019", "abcdefghijkllkjihgfedcba");
        due("spent(0) of 24 steps in 9", it.spent(0), 216);
    }

    private static void spentBad() {
        edge("12 spent: BAD");
        for (int walker : Bench.NO_WALKERS) {
            due("spent(" + walker + ")", Bench.made(Bench.RING, "a").spent(walker), BAD);
        }
    }

    // ---- promise 13

    private static void mayTells() {
        edge("13 may: 0 no, 1 NEW, 2 BACK");
        NewOrBack it = Bench.made(Bench.RING, "", "ab", "abcd", "abbx");
        mayBe(it, 0, NEW, NO, NO, NEW);
        mayBe(it, 1, NO, BACK, NEW, NO);
        mayBe(it, 2, NO, NO, NO, BACK);
        mayBe(it, 3, BACK, NO, NO, NO);
    }

    private static void mayWhereTheWalkIsFull() {
        edge("13 may: a step may be, even if the text has no room for its byte");
        NewOrBack it = Bench.made("011;121;231", "aabcxxxxxxxxxxxxxxxxxxxx");
        due("judged(0)", it.judged(0), 2);
        mayBe(it, 0, NO, NO, NO);
        it = Bench.made("011;021", "bxxxxxxxxxxxxxxxxxxxxxxx");
        due("type(1, 97)", it.type(1, 97), -4);
        mayBe(it, 0, NO, BACK);
    }

    private static void mayBad() {
        edge("13 may: a WAY that there is; BAD");
        NewOrBack it = Bench.made(Bench.RING, "ab");
        for (int walker : Bench.NO_WALKERS) {
            due("may(" + walker + ", 0)", it.may(walker, 0), BAD);
        }
        for (int way : new int[] {-1, 4, 11, 12, 32, 33, Bench.LEAST, Bench.MOST}) {
            due("may(0, " + way + ")", it.may(0, way), BAD);
        }
        due("may(0, 0) without WAYS", new NewOrBack().may(0, 0), BAD);
        it = Bench.made(Bench.TWELVE);
        due("may(0, 11) of twelve", it.may(0, 11), NEW);
        due("may(0, 12) of twelve", it.may(0, 12), BAD);
    }

    public static void main(String[] args) {
        toItsOtherEnd();
        newIfNeverGone();
        backIfLastOpen();
        newStepOpens();
        backStepTakesAway();
        otherSteps();
        allWaysGoneAndComeBackBy();
        eachWalkerItsOwn();
        judgedNone();
        judgedAnotherByte();
        judgedNoSuchWay();
        judgedNotAtOnesPlace();
        judgedNeitherNewNorBack();
        judgedTheFirst();
        judgedBad();
        placeBehindAllStepsAhead();
        placeWithoutSteps();
        placeBad();
        openHowMany();
        openTheIth();
        openBad();
        goneAsBits();
        goneBad();
        spentUntilOneStands();
        spentBad();
        mayTells();
        mayWhereTheWalkIsFull();
        mayBad();
        checks.end();
    }
}
