/** Objects in a told state, as the tests of edges use them. */
final class Bench {
    static final int LEAST = Integer.MIN_VALUE, MOST = Integer.MAX_VALUE;
    /** Numbers that are no WALKER; no PLACE; no SHEET: the nearest on both sides, and the farthest. */
    static final int[] NO_WALKERS = {-1, 4, LEAST, MOST};
    static final int[] NO_PLACES = {-1, 8, LEAST, MOST};
    static final int[] NO_SHEETS = {-1, 4, LEAST, MOST};
    /** A square. a: 0 1 in 3, b: 1 2 in 4, c: 2 3 in 2, d: 3 0 in 1. */
    static final String RING = "013;124;232;301";
    /** Eleven ways between 0 and 1 in 1, and one in 2. */
    static final String TWELVE = "011;011;011;011;011;011;011;011;011;011;011;012";

    private Bench() {
    }

    /** A new object with a wood, and texts of walkers 0 on. */
    static NewOrBack made(String wood, String... walks) {
        NewOrBack it = new NewOrBack();
        type(it, 0, wood);
        for (int i = 0; i < walks.length; i++) {
            type(it, i + 1, walks[i]);
        }
        return it;
    }

    static void type(NewOrBack it, int text, String bytes) {
        for (int i = 0; i < bytes.length(); i++) {
            it.type(text, bytes.charAt(i));
        }
    }

    static void retype(NewOrBack it, int text, String bytes) {
        it.wipe(text);
        type(it, text, bytes);
    }

    /** A sheet of a form with some items. */
    static void fill(NewOrBack it, int s, int form, int... items) {
        it.sheet(s, form, items.length);
        for (int i = 0; i < items.length; i++) {
            it.put(s, form, i, items[i]);
        }
    }

    /** Sights, each as a letter and a figure: "a1 b2". */
    static void see(NewOrBack it, String sights) {
        it.forget();
        for (int i = 0; i + 1 < sights.length(); i += 3) {
            it.seen(sights.charAt(i) - 'a', sights.charAt(i + 1) - '0');
        }
    }
}
