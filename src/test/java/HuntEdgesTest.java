/**
 * Edges of threads, sights and wolves (promises 21 to 26, and what 'Terms' tells of them): of each sentence
 * that names one a test of its own.
 */
public final class HuntEdgesTest {
    private static final int NONE = -1, BAD = -2, FULL = -4;
    private static final String SIX = "011;121;231;341;451;561", SEVEN = SIX + ";671";
    private static final Checks checks = new Checks();

    private static void edge(String sentence) {
        checks.about(sentence);
    }

    private static void due(String call, long got, long want) {
        checks.due(call, got, want);
    }

    // ---- promise 21

    private static void lostAre(NewOrBack it, int walker, int from, int to, int lost) {
        for (int cut = from; cut <= to; cut++) {
            due("lost(" + walker + ", " + cut + ")", it.lost(walker, cut), lost);
        }
    }

    private static void noStepGoesByAWayThatIsCut() {
        edge("CUT: no step goes by them, neither NEW nor BACK");
        NewOrBack it = Bench.made("011;011", "a", "ab", "abb");
        due("lost(0, {b}) BACK by a", it.lost(0, 2), 0);
        due("lost(0, {a}) NEW by b", it.lost(0, 1), 0);
        due("lost(0, {a, b})", it.lost(0, 3), 1);
        due("lost(2, {b}) b is gone", it.lost(2, 2), 0);
        due("lost(2, {a}) b is gone", it.lost(2, 1), 1);
    }

    private static void lostIfAWayInBetweenIsCut() {
        edge("LOST: whether one cannot come HOME then");
        NewOrBack it = Bench.made("011;121;231;341", "abc");
        due("lost(0, none)", it.lost(0, 0), 0);
        lostAre(it, 0, 1, 7, 1);
        due("lost(0, {d}) beyond", it.lost(0, 8), 0);
        lostAre(it, 0, 9, 15, 1);
        it.home(1, 3);
        due("place(1) of another HOME", it.place(1), 3);
        lostAre(it, 1, 0, 15, 0);
    }

    private static void lostAtHome() {
        edge("LOST: never at HOME, whatever is cut");
        NewOrBack it = Bench.made(Bench.RING, "", "aa", "abcd");
        for (int walker = 0; walker < 3; walker++) {
            lostAre(it, walker, 0, 15, 0);
        }
    }

    private static void lostOfWaysThatThereAre() {
        edge("21 lost: a set of WAYS that there are; BAD");
        String wood = "011";
        for (int ways = 1; ways <= 12; ways++) {
            NewOrBack it = Bench.made(wood, "a");
            due("lost(0, all " + ways + ")", it.lost(0, (1 << ways) - 1), 1);
            due("lost(0, one beyond " + ways + ")", it.lost(0, 1 << ways), BAD);
            wood += ";011";
        }
        NewOrBack none = new NewOrBack();
        due("lost(0, 0) without WAYS", none.lost(0, 0), 0);
        due("lost(0, 1) without WAYS", none.lost(0, 1), BAD);
    }

    private static void lostBad() {
        edge("21 lost: BAD");
        NewOrBack it = Bench.made(Bench.RING, "a");
        for (int ways : new int[] {-1, 16, 4095, 4096, Bench.LEAST, Bench.MOST}) {
            due("lost(0, " + ways + ")", it.lost(0, ways), BAD);
        }
        for (int walker : Bench.NO_WALKERS) {
            due("lost(" + walker + ", 0)", it.lost(walker, 0), BAD);
        }
    }

    // ---- promise 22

    private static void threadIs(NewOrBack it, int walker, int many, int ways) {
        due("thread(" + walker + ", 0)", it.thread(walker, 0), many);
        due("thread(" + walker + ", 1)", it.thread(walker, 1), ways);
    }

    private static void threadFewest() {
        edge("THREAD: the fewest WAYS by which one is LOST if they are cut");
        threadIs(Bench.made("011;021;121;231", "bd"), 0, 1, 8);
        threadIs(Bench.made(Bench.RING, "ab"), 0, 2, 5);
        threadIs(Bench.made("011", "a"), 0, 1, 1);
        threadIs(Bench.made(Bench.TWELVE, "l"), 0, 12, 4095);
        threadIs(Bench.made(Bench.TWELVE, "abc"), 0, 10, 4092);
        threadIs(Bench.made(Bench.TWELVE, "abcdefghijk"), 0, 2, 3072);
    }

    private static void threadOfLikeOnes() {
        edge("THREAD: of like ones the least as bits");
        threadIs(Bench.made("011;121;231", "abc"), 0, 1, 1);
        threadIs(Bench.made("231;121;011", "cba"), 0, 1, 1);
        threadIs(Bench.made("121;231;011", "cab"), 0, 1, 1);
        NewOrBack it = Bench.made("121;031;231;011", "da");
        // (a or d) and (b or c)
        threadIs(it, 0, 2, 3);
    }

    private static void threadAtHome() {
        edge("THREAD: NONE: one stands at HOME");
        NewOrBack it = Bench.made(Bench.RING, "", "aa", "abcd", "x");
        for (int walker = 0; walker < 4; walker++) {
            threadIs(it, walker, NONE, NONE);
        }
        threadIs(new NewOrBack(), 0, NONE, NONE);
    }

    private static void threadOfTheOnlyWayBack() {
        edge("THREAD: WAYS that are gone and come back by lead nowhere");
        threadIs(Bench.made(Bench.RING, "ddab"), 0, 1, 1);
        threadIs(Bench.made("011;121;201", "ccab"), 0, 1, 1);
    }

    private static void threadBad() {
        edge("22 thread: BAD");
        NewOrBack it = Bench.made(Bench.RING, "a");
        for (int walker : Bench.NO_WALKERS) {
            due("thread(" + walker + ", 0)", it.thread(walker, 0), BAD);
            due("thread(" + walker + ", 1)", it.thread(walker, 1), BAD);
        }
        for (int what : new int[] {-1, 2, Bench.LEAST, Bench.MOST}) {
            due("thread(0, " + what + ")", it.thread(0, what), BAD);
        }
    }

    // ---- promises 23 and 24

    private static void seenHowMany() {
        edge("23 seen: a SIGHT more: how many; SIGHTS, 4 at most; FULL");
        NewOrBack it = Bench.made(Bench.RING);
        for (int i = 1; i <= 4; i++) {
            due("seen(0, 1)", it.seen(0, 1), i);
            due("count(6)", it.count(6), i);
        }
        due("seen(0, 1) the fifth", it.seen(0, 1), FULL);
        due("count(6)", it.count(6), 4);
    }

    private static void seenOfAnyWayAndPlace() {
        edge("23 seen: WAYS 0 to 11, PLACES 0 to 7, perhaps such as there are not");
        NewOrBack it = new NewOrBack();
        due("seen(0, 0)", it.seen(0, 0), 1);
        due("seen(11, 7)", it.seen(11, 7), 2);
        due("seen(11, 0)", it.seen(11, 0), 3);
        due("seen(0, 7)", it.seen(0, 7), 4);
    }

    private static void seenBad() {
        edge("23 seen: BAD, ahead of FULL");
        NewOrBack it = Bench.made(Bench.TWELVE);
        for (int sights = 0; sights <= 4; sights += 4) {
            for (int way : new int[] {-1, 12, Bench.LEAST, Bench.MOST}) {
                due("seen(" + way + ", 0)", it.seen(way, 0), BAD);
            }
            for (int place : Bench.NO_PLACES) {
                due("seen(0, " + place + ")", it.seen(0, place), BAD);
            }
            due("count(6)", it.count(6), sights);
            Bench.see(it, "a1 a1 a1 a1");
        }
    }

    private static void forgetHowMany() {
        edge("24 forget: SIGHTS are forgotten: how many");
        NewOrBack it = Bench.made("011");
        for (int many = 0; many <= 4; many++) {
            for (int i = 0; i < many; i++) {
                it.seen(11, 7);
            }
            due("forget() of " + many, it.forget(), many);
            due("count(6)", it.count(6), 0);
            due("cameIn()", it.cameIn(), 255);
            due("forget() again", it.forget(), 0);
        }
        due("seen(0, 1)", it.seen(0, 1), 1);
        due("cameIn()", it.cameIn(), 3);
    }

    // ---- promise 25

    private static void cameInIs(String wood, String sights, int places) {
        NewOrBack it = Bench.made(wood);
        Bench.see(it, sights);
        due("cameIn() of " + wood + " with " + sights, it.cameIn(), places);
    }

    private static void cameInUnseen() {
        edge("CAME IN: without SIGHTS all PLACES");
        cameInIs("", "", 255);
        cameInIs(Bench.RING, "", 255);
        cameInIs(SIX, "", 255);
    }

    private static void cameInNothingGone() {
        edge("CAME IN: from which one could have begun, nothing GONE (whatever WALKERS have)");
        NewOrBack it = Bench.made("011;121", "abba", "aa", "ab", "aab");
        Bench.see(it, "a1 b2");
        due("cameIn()", it.cameIn(), 7);
    }

    private static void cameInInThisOrder() {
        edge("CAME IN: some, in this order (others between them)");
        cameInIs("011;121", "a1 b2", 7);
        cameInIs("011;121", "b2 a1", 2);
        cameInIs("011;121;231", "a0 c3", 14);
        cameInIs("011;121;231", "c3 a0", 7);
        cameInIs("011;121;231;341;451", "e5 a0", 31);
        cameInIs("011;121;231", "a1 c3", 15);
    }

    private static void cameInEachASightOfItsOwn() {
        edge("CAME IN: of steps that may be some are the SIGHTS: each a step of its own");
        cameInIs("011", "a1", 3);
        cameInIs("011", "a1 a0", 1);
        cameInIs("011", "a0 a1", 2);
        cameInIs("011", "a1 a1", 0);
        cameInIs("011", "a1 a0 a1", 0);
        cameInIs("011;011", "a1 a0 b1 b0", 1);
        cameInIs("011;011", "a1 b0 b1 a0", 1);
        cameInIs("011;011", "a1 b0 a1", 0);
    }

    private static void cameInNoSuchWay() {
        edge("CAME IN: a SIGHT with a WAY that there is not: none");
        cameInIs("", "a1", 0);
        cameInIs("011", "b1", 0);
        cameInIs("011;121", "a1 l1", 0);
        cameInIs(Bench.RING, "e0", 0);
        cameInIs(Bench.RING + ";", "a1", 0);
        NewOrBack it = Bench.made("011");
        Bench.see(it, "b2");
        Bench.type(it, 0, ";121");
        due("cameIn() with that WAY", it.cameIn(), 7);
    }

    private static void cameInNotToOneOfItsEnds() {
        edge("CAME IN: a SIGHT not to one of its ends: none");
        cameInIs("011;121", "a2", 0);
        cameInIs("011;121", "b0", 0);
        cameInIs("011;121", "a1 b2 a7", 0);
        cameInIs(SIX, "a6", 0);
    }

    private static void cameInFull() {
        edge("CAME IN: with more than 6 WAYS: FULL");
        cameInIs(SIX, "a1", 127);
        cameInIs(SEVEN, "a1", FULL);
        cameInIs(SEVEN, "", FULL);
        cameInIs(SEVEN, "a7", FULL);
        cameInIs(Bench.TWELVE, "a1", FULL);
        cameInIs(SEVEN + ";", "", 255);
        NewOrBack it = Bench.made(SEVEN, "abcdefg");
        due("cameIn() where all is GONE", it.cameIn(), FULL);
    }

    // ---- promise 26

    private static void safeIs(String wood, String walk, int wolf, int safe) {
        due("safe(0, " + wolf + ") of " + wood + " and " + walk, Bench.made(wood, walk).safe(0, wolf), safe);
    }

    private static void caughtAtFirst() {
        edge("WOLF: who is where the wolf is, is caught (also at first)");
        safeIs("011;121", "ab", 2, 0);
        safeIs("011;121", "a", 1, 0);
        safeIs("011;121", "", 0, 0);
        safeIs("", "", 0, 0);
    }

    private static void safeAtFirst() {
        edge("WOLF: who is at HOME, and not caught, is safe (also at first)");
        for (int wolf = 1; wolf < 8; wolf++) {
            safeIs("011;121", "", wolf, 1);
            safeIs("011;121", "abba", wolf, 1);
            safeIs("", "", wolf, 1);
        }
        NewOrBack it = Bench.made("011", "a");
        it.home(0, 1);
        due("safe(0, 1) at PLACE 0 with HOME 1", it.safe(0, 1), 0);
    }

    private static void walkerFirst() {
        edge("WOLF: both go step by step, the WALKER first");
        safeIs("011;121", "a", 2, 1);
        safeIs("011;021", "a", 2, 1);
        safeIs("011;121;231", "ab", 3, 1);
    }

    private static void caughtBehindOnesOwnStep() {
        edge("WOLF: who is where the wolf is, is caught (behind any step: one's own, at HOME too)");
        safeIs("011", "a", 0, 0);
        safeIs("011;121", "ab", 1, 0);
        safeIs("011;121", "ab", 0, 0);
    }

    private static void caughtBehindTheWolfsStep() {
        edge("WOLF: who is where the wolf is, is caught (behind any step: the wolf's)");
        safeIs("011;121;131", "ab", 3, 0);
        safeIs("011;121;231;241", "abc", 4, 0);
    }

    private static void wolfStays() {
        edge("WOLF: it stays, if there is none");
        safeIs("011;121", "ab", 7, 1);
        safeIs("011;121;341", "ab", 3, 1);
        safeIs("011;121;341", "ab", 4, 1);
    }

    private static void wolfGoesByAnyWay() {
        edge("WOLF: nearer by the number of WAYS, whatever they are to the WALKER");
        // c is gone and come back by, a is open: the wolf goes by them
        safeIs("011;121;031", "ccab", 3, 0);
        safeIs("011;121;031", "ab", 3, 0);
        safeIs("011;121;231;031", "abcc", 3, 1);
    }

    private static void wolfCountsWaysNotMinutes() {
        edge("WOLF: nearer by the number of WAYS, not by MINUTES");
        safeIs("011;121;451;511;419", "ab", 4, 0);
        safeIs("011;121;451;511;459", "ab", 4, 1);
    }

    private static void wolfsFirstLetter() {
        edge("WOLF: the first such letter");
        safeIs("011;121;231;411;431", "abc", 4, 0);
        safeIs("011;121;231;431;411", "abc", 4, 1);
    }

    private static void walkerByAnyStep() {
        edge("WOLF: the WALKER by any step that may be, NEW or BACK");
        safeIs(Bench.RING, "ab", 3, 1);
        // back lies the wolf, on leads a new way
        safeIs("011;121;201", "ab", 1, 1);
        safeIs("011;121", "ab", 1, 0);
        // the new way leads to the wolf, back it is free
        safeIs("011;021", "a", 2, 1);
        // a is new, and the only one
        safeIs("021;011;121", "bc", 1, 1);
    }

    private static void walkerByManySteps() {
        edge("WOLF: steps by which one comes to be safe, as many as need be");
        // the wolf is at HOME; one leads it round 1, 4, 3, 6 and comes home by the seventh step
        NewOrBack it = Bench.made("431;141;051;631;011;611", "c");
        it.home(0, 5);
        due("safe(0, 5)", it.safe(0, 5), 1);
    }

    private static void wolfOfEachPlaceAndWay() {
        edge("WOLF: a wolf in a PLACE, by a WAY: of PLACE 0 and WAY a, too");
        safeIs("131;011;121", "bc", 3, 0);
        NewOrBack it = Bench.made("101;021;301", "ab");
        it.home(0, 1);
        due("place(0)", it.place(0), 2);
        due("safe(0, 3)", it.safe(0, 3), 0);
        due("safe(0, 1)", it.safe(0, 1), 0);
        due("safe(0, 4)", it.safe(0, 4), 1);
    }

    private static void safeFull() {
        edge("WOLF: with more than 6 WAYS: FULL (caught or safe at first, too)");
        safeIs(SIX, "ab", 6, 1);
        safeIs(SEVEN, "ab", 6, FULL);
        safeIs(SEVEN, "ab", 2, FULL);
        safeIs(SEVEN, "", 1, FULL);
        safeIs(SEVEN, "abcdefg", 0, FULL);
        safeIs(Bench.TWELVE, "", 0, FULL);
        safeIs(SEVEN + ";", "", 1, 1);
    }

    private static void safeBad() {
        edge("26 safe: BAD, ahead of FULL");
        for (String wood : new String[] {SIX, SEVEN}) {
            NewOrBack it = Bench.made(wood);
            for (int walker : Bench.NO_WALKERS) {
                due("safe(" + walker + ", 1)", it.safe(walker, 1), BAD);
            }
            for (int wolf : Bench.NO_PLACES) {
                due("safe(0, " + wolf + ")", it.safe(0, wolf), BAD);
            }
        }
    }

    public static void main(String[] args) {
        noStepGoesByAWayThatIsCut();
        lostIfAWayInBetweenIsCut();
        lostAtHome();
        lostOfWaysThatThereAre();
        lostBad();
        threadFewest();
        threadOfLikeOnes();
        threadAtHome();
        threadOfTheOnlyWayBack();
        threadBad();
        seenHowMany();
        seenOfAnyWayAndPlace();
        seenBad();
        forgetHowMany();
        cameInUnseen();
        cameInNothingGone();
        cameInInThisOrder();
        cameInEachASightOfItsOwn();
        cameInNoSuchWay();
        cameInNotToOneOfItsEnds();
        cameInFull();
        caughtAtFirst();
        safeAtFirst();
        walkerFirst();
        caughtBehindOnesOwnStep();
        caughtBehindTheWolfsStep();
        wolfStays();
        wolfGoesByAnyWay();
        wolfCountsWaysNotMinutes();
        wolfsFirstLetter();
        walkerByAnyStep();
        walkerByManySteps();
        wolfOfEachPlaceAndWay();
        safeFull();
        safeBad();
        checks.end();
    }
}
