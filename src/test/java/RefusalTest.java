import java.util.Random;

/** Calls with any numbers, in many states: none throws, and what is refused changes nothing. */
public final class RefusalTest {
    private static final Checks checks = new Checks();
    private static final int[] EDGES = {-4, -3, -2, -1, 0, 1, 2, 3, 4, 5, 6, 7, 8, 9, 11, 12, 13, 23, 24, 25, 31, 32, 33,
        47, 48, 49, 59, 60, 97, 108, 255, 256, 4095, 4096, 65535, 1 << 20, 1 << 30, 1 << 31, ~(1 << 31)};
    private static final int CALLS = 31;

    private static int number(Random random) {
        return random.nextInt(4) == 0 ? EDGES[random.nextInt(EDGES.length)] : random.nextInt(10) - 1;
    }

    private static int call(NewOrBack it, int which, int[] n) {
        return switch (which) {
            case 0 -> it.type(n[0], n[1]);
            case 1 -> it.wipe(n[0]);
            case 2 -> it.fault();
            case 3 -> it.way(n[0], n[1]);
            case 4 -> it.home(n[0], n[1]);
            case 5 -> it.read(n[0], n[1]);
            case 6 -> it.judged(n[0]);
            case 7 -> it.place(n[0]);
            case 8 -> it.open(n[0], n[1]);
            case 9 -> it.gone(n[0]);
            case 10 -> it.spent(n[0]);
            case 11 -> it.may(n[0], n[1]);
            case 12 -> it.soon(n[0], n[1]);
            case 13 -> it.still(n[0]);
            case 14 -> it.never(n[0]);
            case 15 -> it.keeps(n[0], n[1], n[2]);
            case 16 -> it.errands(n[0], n[1], n[2]);
            case 17 -> it.meeting(n[0], n[1], n[2]);
            case 18 -> it.lent(n[0], n[1]);
            case 19 -> it.lost(n[0], n[1]);
            case 20 -> it.thread(n[0], n[1]);
            case 21 -> it.seen(n[0], n[1]);
            case 22 -> it.forget();
            case 23 -> it.cameIn();
            case 24 -> it.safe(n[0], n[1]);
            case 25 -> it.sheet(n[0], n[1], n[2]);
            case 26 -> it.lose(n[0]);
            case 27 -> it.put(n[0], n[1], n[2], n[3]);
            case 28 -> it.copy(n[0], n[1], n[2], n[3], n[4]);
            case 29 -> it.write(n[0], n[1]);
            default -> it.count(n[0]);
        };
    }

    private static void typeSome(NewOrBack it, Random random) {
        int ways = random.nextInt(13);
        int places = 2 + random.nextInt(7);
        for (int way = 0; way < ways; way++) {
            int a = random.nextInt(places);
            int[] bytes = {';', '0' + a, '0' + (a + 1 + random.nextInt(places - 1)) % places, '1' + random.nextInt(9)};
            for (int i = way == 0 ? 1 : 0; i < 4; i++) {
                it.type(0, bytes[i]);
            }
        }
        for (int walker = 0; walker < 4; walker++) {
            it.home(walker, random.nextInt(8));
            for (int i = random.nextInt(20); i > 0; i--) {
                for (int tries = 0; tries < 9; tries++) {
                    int way = random.nextInt(12);
                    if (it.may(walker, way) > 0) {
                        it.type(walker + 1, 'a' + way);
                        break;
                    }
                }
            }
        }
    }

    private static void run(long seed) {
        Random random = new Random(seed);
        NewOrBack it = new NewOrBack();
        checks.about("run " + seed);
        typeSome(it, random);
        long before = it.digest();
        for (int i = 0; i < 100; i++) {
            int which = random.nextInt(CALLS);
            int[] n = {number(random), number(random), number(random), number(random), number(random)};
            int latest = it.count(8);
            int answer = call(it, which, n);
            long after = it.digest();
            if (answer < NewOrBack.NONE) {
                checks.due("digest() behind call " + which + " refused", after, before);
                checks.due("count(8) behind call " + which + " refused", it.count(8), answer <= -11 ? -10 - answer : latest);
            } else {
                checks.due("count(8) behind call " + which, it.count(8), latest);
            }
            int got = it.get(n[0], n[1], n[2]);
            checks.isTrue("get()", got >= Integer.MIN_VALUE);
            before = after;
        }
    }

    public static void main(String[] args) {
        for (long seed = 0; seed < 700; seed++) {
            try {
                run(seed);
            } catch (RuntimeException | Error thrown) {
                checks.isTrue("run " + seed + " threw " + thrown, false);
            }
        }
        checks.end();
    }
}
