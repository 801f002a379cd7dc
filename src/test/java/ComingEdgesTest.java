/**
 * Edges of where one can come (promises 14 to 20, and what 'Terms' tells of it): of each sentence that
 * names one a test of its own.
 */
public final class ComingEdgesTest {
    private static final int NONE = -1, BAD = -2, NOT = -3, FULL = -4;
    private static final int[] NO_SETS = {-1, 256, Bench.LEAST, Bench.MOST};
    private static final Checks checks = new Checks();

    private static void edge(String sentence) {
        checks.about(sentence);
    }

    private static void due(String call, long got, long want) {
        checks.due(call, got, want);
    }

    private static void soonAre(NewOrBack it, int walker, int... minutes) {
        for (int place = 0; place < minutes.length; place++) {
            due("soon(" + walker + ", " + place + ")", it.soon(walker, place), minutes[place]);
        }
    }

    /** The minutes of errands, each step, and that there is none beyond. */
    private static void errandsAre(NewOrBack it, int walker, int places, int minutes, String steps) {
        String call = "errands(" + walker + ", " + places + ", ";
        due(call + "NONE)", it.errands(walker, places, NONE), minutes);
        for (int i = 0; i < steps.length(); i++) {
            due(call + i + ")", it.errands(walker, places, i), steps.charAt(i) - 'a');
        }
        for (int i : new int[] {steps.length(), steps.length() + 1, 64, Bench.MOST}) {
            due(call + i + ")", it.errands(walker, places, i), NONE);
        }
    }

    // ---- promise 14

    private static void soonWhereOneIs() {
        edge("SOON: 0, where one is");
        NewOrBack it = Bench.made(Bench.RING, "", "a", "ab", "dd");
        due("soon(0, 0)", it.soon(0, 0), 0);
        due("soon(1, 1)", it.soon(1, 1), 0);
        due("soon(2, 2)", it.soon(2, 2), 0);
        due("soon(3, 0)", it.soon(3, 0), 0);
        it.home(0, 7);
        due("soon(0, 7) where no WAY is", it.soon(0, 7), 0);
    }

    private static void soonNone() {
        edge("SOON: NONE");
        NewOrBack it = Bench.made("011;121;341", "abba", "aab", "abb");
        soonAre(it, 0, 0, NONE, NONE, NONE, NONE, NONE, NONE, NONE);
        soonAre(it, 1, 0, NONE, NONE, NONE, NONE, NONE, NONE, NONE);
        soonAre(it, 2, 1, 0, NONE, NONE, NONE, NONE, NONE, NONE);
        soonAre(it, 3, 0, 1, 2, NONE, NONE, NONE, NONE, NONE);
    }

    private static void soonFewestMinutes() {
        edge("SOON: the fewest MINUTES, not the fewest steps");
        NewOrBack it = Bench.made("019;021;121", "", "a");
        soonAre(it, 0, 0, 2, 1);
        soonAre(it, 1, 2, 0, 1);
        it = Bench.made("019;019;018");
        soonAre(it, 0, 0, 8);
    }

    private static void soonByStepsThatMayBe() {
        edge("SOON: by steps that may be");
        // a is open, but not the last: from 2 one comes to 1 by b alone
        NewOrBack it = Bench.made("011;129;201", "ab");
        soonAre(it, 0, 1, 9, 0);
        // b is gone and come back by: from 0 one comes to 1 by the long way
        it = Bench.made("011;019", "aa", "");
        soonAre(it, 0, 0, 9);
        soonAre(it, 1, 0, 1);
        // back by b and a, then on by c; not by c at once
        it = Bench.made("011;121;031", "ab");
        soonAre(it, 0, 2, 1, 0, 3);
    }

    private static void soonFarthest() {
        edge("SOON: as far as can be");
        NewOrBack it = Bench.made("019;129;239;349;459;569;679;769;659;549;439;329", "abcdefghijkl");
        soonAre(it, 0, 108, 99, 0, 9, 18, 27, 36, 45);
        it = Bench.made("019;129;239;349;459;569;679");
        soonAre(it, 0, 0, 9, 18, 27, 36, 45, 54, 63);
        it = Bench.made("769;659;549;439;329;219;109");
        soonAre(it, 0, 0, 9, 18, 27, 36, 45, 54, 63);
    }

    private static void soonBad() {
        edge("14 soon: BAD");
        NewOrBack it = Bench.made(Bench.RING);
        for (int walker : Bench.NO_WALKERS) {
            due("soon(" + walker + ", 0)", it.soon(walker, 0), BAD);
        }
        for (int place : Bench.NO_PLACES) {
            due("soon(0, " + place + ")", it.soon(0, place), BAD);
        }
    }

    // ---- promise 15

    private static void stillAsBits() {
        edge("15 still: STILL (all PLACES to which one can come), as bits");
        NewOrBack it = Bench.made("011;121;231;341;451;561;671", "", "abcdefg", "abcdefgg", "aa");
        int[] stills = {255, 255, 127, 1};
        for (int walker = 0; walker < 4; walker++) {
            due("still(" + walker + ")", it.still(walker), stills[walker]);
        }
        it = Bench.made(Bench.RING, "abccb");
        due("still(0) back, or round the other way", it.still(0), 11);
    }

    private static void stillWithoutWays() {
        edge("15 still: without WAYS only where one is");
        NewOrBack it = new NewOrBack();
        for (int place = 0; place < 8; place++) {
            it.home(1, place);
            due("still(1)", it.still(1), 1 << place);
        }
    }

    private static void stillBad() {
        edge("15 still: BAD");
        for (int walker : Bench.NO_WALKERS) {
            due("still(" + walker + ")", Bench.made(Bench.RING).still(walker), BAD);
        }
    }

    // ---- promise 16

    private static void neverWhereOneWas() {
        edge("NEVER: PLACES where one was, and to which one cannot come any more");
        NewOrBack it = Bench.made("011;121;231;341", "abccb", "abcc", "abc", "");
        int[] nevers = {12, 8, 0, 0};
        for (int walker = 0; walker < 4; walker++) {
            due("never(" + walker + ")", it.never(walker), nevers[walker]);
        }
        it = Bench.made("011;121;011", "abba");
        due("never(0) where 1 has another WAY", it.never(0), 4);
        Bench.type(it, 1, "c");
        due("never(0) at 1", it.never(0), 4);
        Bench.type(it, 1, "c");
        due("never(0) at 0 again", it.never(0), 6);
    }

    private static void neverHome() {
        edge("NEVER: HOME, too (to which one always can come: back)");
        NewOrBack it = Bench.made("011;121;231", "a", "abccb", "abccba", "aa");
        int[] nevers = {0, 12, 14, 2};
        for (int walker = 0; walker < 4; walker++) {
            due("never(" + walker + ")", it.never(walker), nevers[walker]);
        }
        it.home(3, 1);
        due("never(3) of HOME 1", it.never(3), 1);
    }

    private static void neverOnlyStepsJudgedWell() {
        edge("NEVER: where one was until one STANDS");
        NewOrBack it = Bench.made("011;121", "aaxab", "abba");
        due("never(0)", it.never(0), 2);
        due("never(1)", it.never(1), 6);
    }

    private static void neverOfFormerWalks() {
        edge("NEVER: where one was, not where one had been by a text that is gone");
        NewOrBack it = Bench.made("011;121", "abba");
        due("never(0)", it.never(0), 6);
        it.home(0, 7);
        due("never(0) from another HOME", it.never(0), 0);
        it.home(0, 0);
        it.wipe(0);
        due("never(0) without WAYS", it.never(0), 0);
    }

    private static void neverBad() {
        edge("16 never: BAD");
        for (int walker : Bench.NO_WALKERS) {
            due("never(" + walker + ")", Bench.made(Bench.RING, "aa").never(walker), BAD);
        }
    }

    // ---- promise 17

    private static void keepsBehindTheStep() {
        edge("KEEPS: whether behind it one can still come to each of them");
        NewOrBack it = Bench.made("011;121;231", "a");
        due("keeps(0, a, {0})", it.keeps(0, 0, 1), 1);
        due("keeps(0, a, {1})", it.keeps(0, 0, 2), 0);
        due("keeps(0, a, {0, 1})", it.keeps(0, 0, 3), 0);
        due("keeps(0, b, {0, 1, 2, 3})", it.keeps(0, 1, 15), 1);
        due("keeps(0, b, {0, .. 4})", it.keeps(0, 1, 31), 0);
        due("still(0) ahead of it", it.still(0), 15);
        due("open(0, NONE) as it was", it.open(0, NONE), 1);
    }

    private static void keepsSets() {
        edge("17 keeps: a set of PLACES (0 to 255)");
        NewOrBack it = Bench.made("011;121;231;341;451;561;671");
        due("keeps(0, 0, 0)", it.keeps(0, 0, 0), 1);
        due("keeps(0, 0, 255)", it.keeps(0, 0, 255), 1);
        due("keeps(0, 0, 128)", it.keeps(0, 0, 128), 1);
        for (int places : NO_SETS) {
            due("keeps(0, 0, " + places + ")", it.keeps(0, 0, places), BAD);
        }
        it = Bench.made("011");
        due("keeps(0, 0, 255) of a small wood", it.keeps(0, 0, 255), 0);
        due("keeps(0, 0, 0) of a small wood", it.keeps(0, 0, 0), 1);
    }

    private static void keepsNot() {
        edge("17 keeps: NOT: it may not be");
        NewOrBack it = Bench.made(Bench.RING, "ab", "aa", "abcd");
        due("keeps(0, 0, 0) open, not the last", it.keeps(0, 0, 0), NOT);
        due("keeps(0, 3, 0) not at one's PLACE", it.keeps(0, 3, 0), NOT);
        due("keeps(1, 0, 0) come back by", it.keeps(1, 0, 0), NOT);
        due("keeps(2, 0, 255) open, not the last", it.keeps(2, 0, 255), NOT);
        due("keeps(2, 3, 15) BACK", it.keeps(2, 3, 15), 1);
        due("keeps(1, 3, 15) NEW", it.keeps(1, 3, 15), 1);
    }

    private static void keepsBad() {
        edge("17 keeps: BAD, ahead of NOT");
        NewOrBack it = Bench.made(Bench.RING, "ab");
        for (int walker : Bench.NO_WALKERS) {
            due("keeps(" + walker + ", 1, 0)", it.keeps(walker, 1, 0), BAD);
        }
        for (int way : new int[] {-1, 4, 11, 12, Bench.LEAST, Bench.MOST}) {
            due("keeps(0, " + way + ", 0)", it.keeps(0, way, 0), BAD);
        }
        due("keeps(0, 0, 256)", it.keeps(0, 0, 256), BAD);
        due("keeps(0, 0, -1)", it.keeps(0, 0, -1), BAD);
        due("keeps(0, 0, 0) without WAYS", new NewOrBack().keeps(0, 0, 0), BAD);
    }

    // ---- promise 18

    private static void errandsOfNoPlace() {
        edge("ERRANDS: of no PLACE, only to HOME");
        NewOrBack it = Bench.made(Bench.RING, "", "ab", "abcd", "ddab");
        errandsAre(it, 0, 0, 0, "");
        errandsAre(it, 1, 0, 3, "cd");
        errandsAre(it, 2, 0, 0, "");
        errandsAre(it, 3, 0, 7, "ba");
    }

    private static void errandsWhereOneIs() {
        edge("ERRANDS: where one is counts");
        NewOrBack it = Bench.made(Bench.RING, "", "ab");
        errandsAre(it, 0, 1, 0, "");
        errandsAre(it, 1, 4, 3, "cd");
        errandsAre(it, 1, 5, 3, "cd");
        errandsAre(it, 1, 13, 3, "cd");
    }

    private static void errandsFromWhereOneStands() {
        edge("ERRANDS: from where one STANDS; PLACES where one was ahead of that do not count");
        NewOrBack it = Bench.made(Bench.RING, "aa");
        errandsAre(it, 0, 2, 14, "dcbbcd");
    }

    private static void errandsInAnyOrder() {
        edge("ERRANDS: all of them, in any order");
        NewOrBack it = Bench.made("011;021;031");
        errandsAre(it, 0, 14, 6, "aabbcc");
        it = Bench.made("031;021;011");
        errandsAre(it, 0, 14, 6, "aabbcc");
        it = Bench.made("121;011;231");
        errandsAre(it, 0, 14, 6, "baccab");
        errandsAre(Bench.made(Bench.RING), 0, 15, 10, "abcd");
    }

    private static void errandsEndAtHome() {
        edge("ERRANDS: and is at HOME at the end");
        NewOrBack it = Bench.made(Bench.RING, "ab");
        it.home(1, 3);
        errandsAre(it, 1, 1, 2, "dd");
        errandsAre(it, 1, 9, 2, "dd");
        errandsAre(it, 0, 8, 3, "cd");
    }

    private static void errandsFewestSteps() {
        edge("ERRANDS: of such rows of steps the one with the fewest steps");
        // to 1 and home in 4 minutes: cc, acc.., abba: cc is the shortest row
        NewOrBack it = Bench.made("021;211;012");
        errandsAre(it, 0, 2, 4, "cc");
        // home from 2 in 2 minutes: ba (back) or c
        it = Bench.made("011;121;202", "ab");
        errandsAre(it, 0, 0, 2, "c");
    }

    private static void errandsLeastByLetters() {
        edge("ERRANDS: of like ones the least by letters");
        errandsAre(Bench.made("011;011"), 0, 2, 2, "aa");
        errandsAre(Bench.made("011;011;011", "a"), 0, 0, 1, "a");
        errandsAre(Bench.made("011;011;011", "b"), 0, 0, 1, "a");
        errandsAre(Bench.made("121;011;011"), 0, 6, 4, "baab");
        errandsAre(Bench.made("021;121;011"), 0, 6, 3, "abc");
    }

    private static void errandsNone() {
        edge("ERRANDS: NONE: there is none");
        NewOrBack it = Bench.made("011;121", "", "abb", "aa");
        errandsAre(it, 0, 8, NONE, "");
        errandsAre(it, 0, 255, NONE, "");
        errandsAre(it, 1, 4, NONE, "");
        errandsAre(it, 1, 3, 1, "a");
        errandsAre(it, 2, 2, NONE, "");
        errandsAre(it, 2, 1, 0, "");
    }

    private static void errandsBeyond() {
        edge("18 errands: the i-th step as a WAY (0 on; NONE beyond)");
        NewOrBack it = Bench.made("011;121;231;341;451;561");
        errandsAre(it, 0, 64, 12, "abcdeffedcba");
        it = Bench.made(Bench.TWELVE, "abcdefghijkl");
        errandsAre(it, 0, 2, 3, "lk");
    }

    private static void errandsFull() {
        edge("ERRANDS: with more than 6 WAYS that are not GONE: FULL");
        NewOrBack it = Bench.made("011;011;011;011;011;011;011", "", "a", "aa", "abcdefg");
        for (int i : new int[] {NONE, 0, 1, 100, Bench.MOST}) {
            due("errands(0, 2, " + i + ") of seven", it.errands(0, 2, i), FULL);
        }
        due("errands(0, 0, NONE) of no PLACE", it.errands(0, 0, NONE), FULL);
        due("errands(0, 128, NONE) where there is none", it.errands(0, 128, NONE), FULL);
        errandsAre(it, 1, 0, 1, "a");
        errandsAre(it, 2, 2, 2, "bb");
        errandsAre(it, 3, 0, 1, "g");
        it = Bench.made("011;011;011;011;011;011", "");
        errandsAre(it, 0, 2, 2, "aa");
        it = Bench.made(Bench.TWELVE, "abcdef", "abcde");
        errandsAre(it, 0, 0, 0, "");
        due("errands(1, 0, NONE) of twelve less five", it.errands(1, 0, NONE), FULL);
    }

    private static void errandsBad() {
        edge("18 errands: BAD, ahead of FULL");
        for (String wood : new String[] {Bench.RING, Bench.TWELVE}) {
            NewOrBack it = Bench.made(wood);
            for (int walker : Bench.NO_WALKERS) {
                due("errands(" + walker + ", 0, NONE)", it.errands(walker, 0, NONE), BAD);
            }
            for (int places : NO_SETS) {
                due("errands(0, " + places + ", NONE)", it.errands(0, places, NONE), BAD);
            }
            due("errands(0, 0, -2)", it.errands(0, 0, -2), BAD);
            due("errands(0, 0, LEAST)", it.errands(0, 0, Bench.LEAST), BAD);
        }
    }

    // ---- promise 19

    private static void meetingOfTheLater() {
        edge("MEETING: such that the later of both comes soonest");
        NewOrBack it = Bench.made("015;122;231");
        it.home(1, 3);
        // at 0: 8, at 1: 5, at 2: 7, at 3: 8
        due("meeting(0, 1, 0)", it.meeting(0, 1, 0), 1);
        due("meeting(0, 1, 1)", it.meeting(0, 1, 1), 5);
        due("meeting(1, 0, 0)", it.meeting(1, 0, 0), 1);
        due("meeting(1, 0, 1)", it.meeting(1, 0, 1), 5);
    }

    private static void meetingAtOnce() {
        edge("MEETING: of two in one PLACE");
        NewOrBack it = Bench.made(Bench.RING, "ab", "dc");
        due("meeting(0, 1, 0)", it.meeting(0, 1, 0), 2);
        due("meeting(0, 1, 1)", it.meeting(0, 1, 1), 0);
        due("meeting(2, 3, 0)", it.meeting(2, 3, 0), 0);
        due("meeting(2, 3, 1)", it.meeting(2, 3, 1), 0);
    }

    private static void meetingOfLikeOnes() {
        edge("MEETING: of like ones the least");
        NewOrBack it = Bench.made("673");
        it.home(0, 7);
        it.home(1, 6);
        due("meeting(0, 1, 0)", it.meeting(0, 1, 0), 6);
        due("meeting(1, 0, 0)", it.meeting(1, 0, 0), 6);
        due("meeting(0, 1, 1)", it.meeting(0, 1, 1), 3);
        it = Bench.made("051;531;021;231");
        it.home(1, 3);
        due("meeting(0, 1, 0) at 2 or 5", it.meeting(0, 1, 0), 2);
        due("meeting(0, 1, 1) at 2 or 5", it.meeting(0, 1, 1), 1);
    }

    private static void meetingNone() {
        edge("19 meeting: NONE");
        NewOrBack it = Bench.made("011;231", "", "", "aa");
        it.home(1, 3);
        for (int what = 0; what < 2; what++) {
            due("meeting(0, 1, " + what + ")", it.meeting(0, 1, what), NONE);
            due("meeting(1, 0, " + what + ")", it.meeting(1, 0, what), NONE);
        }
        due("meeting(0, 2, 0) at 0 only", it.meeting(0, 2, 0), 0);
        it.home(3, 1);
        due("meeting(2, 3, 0) where one cannot come any more", it.meeting(2, 3, 0), 0);
        due("meeting(2, 3, 1)", it.meeting(2, 3, 1), 1);
    }

    private static void meetingBad() {
        edge("19 meeting: BAD: also one with oneself");
        NewOrBack it = Bench.made(Bench.RING);
        for (int what = 0; what < 2; what++) {
            for (int walker = 0; walker < 4; walker++) {
                due("meeting with oneself", it.meeting(walker, walker, what), BAD);
            }
            for (int walker : Bench.NO_WALKERS) {
                due("meeting(" + walker + ", 0, " + what + ")", it.meeting(walker, 0, what), BAD);
                due("meeting(0, " + walker + ", " + what + ")", it.meeting(0, walker, what), BAD);
                due("meeting of none with itself", it.meeting(walker, walker, what), BAD);
            }
        }
        for (int what : new int[] {-1, 2, Bench.LEAST, Bench.MOST}) {
            due("meeting(0, 1, " + what + ")", it.meeting(0, 1, what), BAD);
        }
    }

    // ---- promise 20

    private static void lentStandsWhereTheSecondDoes() {
        edge("LENT: of one who stands where the second does, with OPEN WAYS as the second has them");
        NewOrBack it = Bench.made("011;121;231", "", "ab");
        due("lent(0, 1)", it.lent(0, 1), 15);
        due("lent(1, 0)", it.lent(1, 0), 1);
        it.home(2, 3);
        due("lent(1, 2)", it.lent(1, 2), 12);
        due("lent(2, 1)", it.lent(2, 1), 15);
    }

    private static void lentGoneOfEither() {
        edge("LENT: and has GONE all that either of both has GONE");
        NewOrBack it = Bench.made("011;121;231", "aa", "abcc", "abc");
        due("lent(0, 3)", it.lent(0, 3), 1);
        due("lent(3, 0)", it.lent(3, 0), 1);
        due("lent(0, 1)", it.lent(0, 1), 7);
        due("lent(1, 2)", it.lent(1, 2), 15);
        due("lent(3, 1)", it.lent(3, 1), 7);
        due("still(3) as it was", it.still(3), 15);
        due("gone(3) as it was", it.gone(3), 0);
    }

    private static void lentBad() {
        edge("20 lent: BAD: also one with oneself");
        NewOrBack it = Bench.made(Bench.RING);
        for (int walker = 0; walker < 4; walker++) {
            due("lent to oneself", it.lent(walker, walker), BAD);
        }
        for (int walker : Bench.NO_WALKERS) {
            due("lent(" + walker + ", 0)", it.lent(walker, 0), BAD);
            due("lent(0, " + walker + ")", it.lent(0, walker), BAD);
            due("lent of none to itself", it.lent(walker, walker), BAD);
        }
    }

    public static void main(String[] args) {
        soonWhereOneIs();
        soonNone();
        soonFewestMinutes();
        soonByStepsThatMayBe();
        soonFarthest();
        soonBad();
        stillAsBits();
        stillWithoutWays();
        stillBad();
        neverWhereOneWas();
        neverHome();
        neverOnlyStepsJudgedWell();
        neverOfFormerWalks();
        neverBad();
        keepsBehindTheStep();
        keepsSets();
        keepsNot();
        keepsBad();
        errandsOfNoPlace();
        errandsWhereOneIs();
        errandsFromWhereOneStands();
        errandsInAnyOrder();
        errandsEndAtHome();
        errandsFewestSteps();
        errandsLeastByLetters();
        errandsNone();
        errandsBeyond();
        errandsFull();
        errandsBad();
        meetingOfTheLater();
        meetingAtOnce();
        meetingOfLikeOnes();
        meetingNone();
        meetingBad();
        lentStandsWhereTheSecondDoes();
        lentGoneOfEither();
        lentBad();
        checks.end();
    }
}
