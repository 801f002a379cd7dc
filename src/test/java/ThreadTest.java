import java.util.Random;

/** thread() in woods of many ways, by lost() of each set of ways that could be cut. */
public final class ThreadTest {
    private static final int CALLS_OF_AN_OBJECT = 300;
    private static final Checks checks = new Checks();

    private static NewOrBack make(String wood, int home, String walk) {
        NewOrBack it = new NewOrBack();
        for (int i = 0; i < wood.length(); i++) {
            it.type(0, wood.charAt(i));
        }
        it.home(2, home);
        for (int i = 0; i < walk.length(); i++) {
            it.type(3, walk.charAt(i));
        }
        return it;
    }

    private static String someWood(Random random, int ways, int places) {
        StringBuilder wood = new StringBuilder();
        for (int way = 0; way < ways; way++) {
            int a = random.nextInt(places);
            wood.append(way == 0 ? "" : ";").append(a).append((a + 1 + random.nextInt(places - 1)) % places).append(1);
        }
        return wood.toString();
    }

    private static String someWalk(Random random, String wood, int home, int steps) {
        NewOrBack it = make(wood, home, "");
        StringBuilder walk = new StringBuilder();
        for (int tries = 0; tries < 300 && walk.length() < steps; tries++) {
            int way = random.nextInt(it.count(0));
            int kind = it.may(2, way);
            if (kind == 1 || kind == 2 && random.nextInt(3) == 0) {
                it.type(3, 'a' + way);
                walk.append((char) ('a' + way));
            }
        }
        return walk.toString();
    }

    private static int leastCut(String wood, int home, String walk) {
        NewOrBack it = make(wood, home, walk);
        int best = NewOrBack.NONE;
        int all = 1 << it.count(0);
        for (int cut = 0; cut < all; cut++) {
            if (cut % CALLS_OF_AN_OBJECT == 0) {
                it = make(wood, home, walk);
            }
            if ((best == NewOrBack.NONE || Integer.bitCount(cut) < Integer.bitCount(best)) && it.lost(2, cut) == 1) {
                best = cut;
            }
        }
        return best;
    }

    public static void main(String[] args) {
        for (long seed = 0; seed < 600; seed++) {
            Random random = new Random(seed);
            checks.about("run " + seed);
            int places = 2 + random.nextInt(7);
            String wood = someWood(random, 6 + random.nextInt(7), places);
            int home = random.nextInt(places);
            String walk = someWalk(random, wood, home, random.nextInt(12));
            int cut = leastCut(wood, home, walk);
            NewOrBack it = make(wood, home, walk);
            String call = wood + " from " + home + " by " + walk + ": thread(2, ";
            checks.due(call + "1)", it.thread(2, 1), cut);
            checks.due(call + "0)", it.thread(2, 0), cut == NewOrBack.NONE ? cut : Integer.bitCount(cut));
        }
        checks.end();
    }
}
