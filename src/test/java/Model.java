import java.util.ArrayList;
import java.util.Arrays;
import java.util.HashMap;
import java.util.HashSet;
import java.util.List;
import java.util.Map;
import java.util.PriorityQueue;
import java.util.regex.Matcher;
import java.util.regex.Pattern;

/**
 * The document once more, by trying out all that may be, with none of the short cuts of the class:
 * every row of steps is gone (rows that leave one in the same state count as one).
 */
final class Model {
    static final int NONE = -1, BAD = -2, NOT = -3, FULL = -4;
    private static final Pattern WOOD =
            Pattern.compile("(([0-7])(?!\\2)[0-7][1-9](;([0-7])(?!\\4)[0-7][1-9])*)?");

    /** Where one stands; of like states one is made, so that rows can be looked up. */
    record State(int place, List<Integer> open, int gone) {
    }

    record Sight(int way, int place) {
    }

    private final StringBuilder[] texts = new StringBuilder[5];
    private final int[] homes = new int[4];
    private final List<Sight> sights = new ArrayList<>();
    private final int[][] sheets = new int[4][];
    private final int[] forms = new int[4];
    private int latest = 0;
    private List<int[]> ways = new ArrayList<>();
    private int fault = NONE;
    /** Leaves out rows that go a new way and come back by it, which take much time where ways are many. */
    private final boolean isSparing;

    Model(boolean isSparing) {
        this.isSparing = isSparing;
        for (int i = 0; i < 5; i++) {
            texts[i] = new StringBuilder();
        }
    }

    // ---- the wood

    private static boolean canGoOn(String text) {
        Matcher matcher = WOOD.matcher(text);
        return matcher.matches() || matcher.hitEnd();
    }

    private void parse() {
        String text = texts[0].toString();
        fault = NONE;
        for (int i = 1; i <= text.length() && fault == NONE; i++) {
            if (!canGoOn(text.substring(0, i))) {
                fault = i - 1;
            }
        }
        if (fault == NONE && !WOOD.matcher(text).matches()) {
            fault = text.length();
        }
        if (text.length() > 48 && (fault == NONE || fault > 48)) {
            fault = 48;
        }
        ways = new ArrayList<>();
        if (fault == NONE && !text.isEmpty()) {
            for (String told : text.split(";")) {
                ways.add(new int[] {told.charAt(0) - '0', told.charAt(1) - '0', told.charAt(2) - '0'});
            }
        }
    }

    private static boolean in(int n, int bound) {
        return n >= 0 && n < bound;
    }

    int type(int text, int b) {
        if (!in(text, 5) || !in(b, 256)) {
            return BAD;
        }
        if (texts[text].length() == (text == 0 ? 60 : 24)) {
            return FULL;
        }
        texts[text].append((char) b);
        parse();
        return texts[text].length();
    }

    int wipe(int text) {
        if (!in(text, 5)) {
            return BAD;
        }
        int had = texts[text].length();
        texts[text] = new StringBuilder();
        parse();
        return had;
    }

    int fault() {
        return fault;
    }

    int way(int way, int what) {
        return in(way, ways.size()) && in(what, 3) ? ways.get(way)[what] : BAD;
    }

    int home(int walker, int place) {
        if (!in(walker, 4) || !in(place, 8)) {
            return BAD;
        }
        int was = homes[walker];
        homes[walker] = place;
        return was;
    }

    int read(int s, int walker) {
        if (!in(s, 4) || !in(walker, 4)) {
            return BAD;
        }
        if (sheets[s] == null) {
            return finding(1);
        }
        StringBuilder text = new StringBuilder();
        for (int item : sheets[s]) {
            if (!in(item, 12) || text.length() == 24) {
                break;
            }
            text.append("abcdefghijkl".charAt(item));
        }
        texts[walker + 1] = text;
        return text.length();
    }

    // ---- walks

    private int other(int way, int place) {
        int[] w = ways.get(way);
        return w[0] == place ? w[1] : w[1] == place ? w[0] : NONE;
    }

    private int kind(State s, int way) {
        if (!in(way, ways.size()) || other(way, s.place) == NONE) {
            return 0;
        }
        if ((s.gone >> way & 1) == 0) {
            return 1;
        }
        return !s.open.isEmpty() && s.open.get(s.open.size() - 1) == way ? 2 : 0;
    }

    private State after(State s, int way) {
        List<Integer> open = new ArrayList<>(s.open);
        if (kind(s, way) == 1) {
            open.add(way);
        } else {
            open.remove(open.size() - 1);
        }
        return new State(other(way, s.place), open, s.gone | 1 << way);
    }

    private final class Told {
        State state;
        int judged = NONE;
        int spent = 0;
        int been;

        Told(int walker) {
            state = new State(homes[walker], List.of(), 0);
            been = 1 << homes[walker];
            CharSequence text = texts[walker + 1];
            for (int i = 0; i < text.length(); i++) {
                int way = "abcdefghijkl".indexOf(text.charAt(i));
                if (kind(state, way) == 0) {
                    judged = i;
                    return;
                }
                state = after(state, way);
                spent += ways.get(way)[2];
                been |= 1 << state.place;
            }
        }
    }

    int judged(int walker) {
        return in(walker, 4) ? new Told(walker).judged : BAD;
    }

    int place(int walker) {
        return in(walker, 4) ? new Told(walker).state.place : BAD;
    }

    int open(int walker, int i) {
        if (!in(walker, 4) || i < -1) {
            return BAD;
        }
        List<Integer> open = new Told(walker).state.open;
        return i == -1 ? open.size() : i < open.size() ? open.get(i) : NONE;
    }

    int gone(int walker) {
        return in(walker, 4) ? new Told(walker).state.gone : BAD;
    }

    int spent(int walker) {
        return in(walker, 4) ? new Told(walker).spent : BAD;
    }

    int may(int walker, int way) {
        return in(walker, 4) && in(way, ways.size()) ? kind(new Told(walker).state, way) : BAD;
    }

    // ---- where one can come

    private record Timed(int minutes, State state) {
    }

    /** The fewest minutes to each place by steps that may be, of ways that are not cut. */
    private int[] soonest(State from, int cut) {
        int[] soonest = new int[8];
        Arrays.fill(soonest, NONE);
        HashSet<State> done = new HashSet<>();
        PriorityQueue<Timed> next = new PriorityQueue<>((a, b) -> a.minutes - b.minutes);
        next.add(new Timed(0, from));
        while (!next.isEmpty()) {
            Timed t = next.remove();
            if (!done.add(t.state)) {
                continue;
            }
            if (soonest[t.state.place] == NONE) {
                soonest[t.state.place] = t.minutes;
            }
            for (int way = 0; way < ways.size(); way++) {
                int kind = kind(t.state, way);
                boolean isLeftOut = isSparing && kind == 2 && (from.gone >> way & 1) == 0;
                if (kind != 0 && !isLeftOut && (cut >> way & 1) == 0) {
                    next.add(new Timed(t.minutes + ways.get(way)[2], after(t.state, way)));
                }
            }
        }
        return soonest;
    }

    private int stillFrom(State from, int cut) {
        int still = 0;
        int[] soonest = soonest(from, cut);
        for (int place = 0; place < 8; place++) {
            still |= soonest[place] == NONE ? 0 : 1 << place;
        }
        return still;
    }

    int soon(int walker, int place) {
        return in(walker, 4) && in(place, 8) ? soonest(new Told(walker).state, 0)[place] : BAD;
    }

    int still(int walker) {
        return in(walker, 4) ? stillFrom(new Told(walker).state, 0) : BAD;
    }

    int never(int walker) {
        if (!in(walker, 4)) {
            return BAD;
        }
        Told told = new Told(walker);
        return told.been & ~stillFrom(told.state, 0);
    }

    int keeps(int walker, int way, int places) {
        if (!in(walker, 4) || !in(way, ways.size()) || !in(places, 256)) {
            return BAD;
        }
        State state = new Told(walker).state;
        if (kind(state, way) == 0) {
            return NOT;
        }
        return (places & ~stillFrom(after(state, way), 0)) == 0 ? 1 : 0;
    }

    private record Row(int minutes, String letters, State state, int visited) {
        int compare(Row b) {
            if (minutes != b.minutes) {
                return minutes - b.minutes;
            }
            if (letters.length() != b.letters.length()) {
                return letters.length() - b.letters.length();
            }
            return letters.compareTo(b.letters);
        }
    }

    private record Visit(State state, int visited) {
    }

    int errands(int walker, int places, int i) {
        if (!in(walker, 4) || !in(places, 256) || i < -1) {
            return BAD;
        }
        State from = new Told(walker).state;
        if (ways.size() - Integer.bitCount(from.gone) > 6) {
            return FULL;
        }
        HashSet<Visit> done = new HashSet<>();
        PriorityQueue<Row> next = new PriorityQueue<>(Row::compare);
        next.add(new Row(0, "", from, 1 << from.place & places));
        while (!next.isEmpty()) {
            Row row = next.remove();
            if (!done.add(new Visit(row.state, row.visited))) {
                continue;
            }
            if (row.visited == places && row.state.place == homes[walker]) {
                if (i == -1) {
                    return row.minutes;
                }
                return i < row.letters.length() ? row.letters.charAt(i) - 'a' : NONE;
            }
            for (int way = 0; way < ways.size(); way++) {
                if (kind(row.state, way) != 0) {
                    State then = after(row.state, way);
                    next.add(new Row(row.minutes + ways.get(way)[2], row.letters + (char) ('a' + way), then,
                            row.visited | 1 << then.place & places));
                }
            }
        }
        return NONE;
    }

    int meeting(int a, int b, int what) {
        if (!in(a, 4) || !in(b, 4) || a == b || !in(what, 2)) {
            return BAD;
        }
        int[] of = soonest(new Told(a).state, 0);
        int[] with = soonest(new Told(b).state, 0);
        int[] best = {NONE, NONE};
        for (int place = 7; place >= 0; place--) {
            if (of[place] != NONE && with[place] != NONE) {
                int when = Math.max(of[place], with[place]);
                if (best[1] == NONE || when <= best[1]) {
                    best = new int[] {place, when};
                }
            }
        }
        return best[what];
    }

    int lent(int a, int b) {
        if (!in(a, 4) || !in(b, 4) || a == b) {
            return BAD;
        }
        State of = new Told(b).state;
        return stillFrom(new State(of.place, of.open, of.gone | new Told(a).state.gone), 0);
    }

    // ---- threads, sights, wolves

    int lost(int walker, int cut) {
        if (!in(walker, 4) || !in(cut, 1 << ways.size())) {
            return BAD;
        }
        return (stillFrom(new Told(walker).state, cut) >> homes[walker] & 1) == 0 ? 1 : 0;
    }

    int thread(int walker, int what) {
        if (!in(walker, 4) || !in(what, 2)) {
            return BAD;
        }
        State state = new Told(walker).state;
        int best = NONE;
        for (int cut = 0; cut < 1 << ways.size(); cut++) {
            if ((best == NONE || Integer.bitCount(cut) < Integer.bitCount(best))
                    && (stillFrom(state, cut) >> homes[walker] & 1) == 0) {
                best = cut;
            }
        }
        return best == NONE || what == 1 ? best : Integer.bitCount(best);
    }

    int seen(int way, int place) {
        if (!in(way, 12) || !in(place, 8)) {
            return BAD;
        }
        if (sights.size() == 4) {
            return FULL;
        }
        sights.add(new Sight(way, place));
        return sights.size();
    }

    int forget() {
        int had = sights.size();
        sights.clear();
        return had;
    }

    private boolean canShow(State state, int shown, HashSet<Visit> tried) {
        if (shown == sights.size()) {
            return true;
        }
        if (!tried.add(new Visit(state, shown))) {
            return false;
        }
        Sight sight = sights.get(shown);
        for (int way = 0; way < ways.size(); way++) {
            if (kind(state, way) != 0) {
                State then = after(state, way);
                boolean isIt = sight.way == way && sight.place == then.place;
                if (canShow(then, isIt ? shown + 1 : shown, tried)) {
                    return true;
                }
            }
        }
        return false;
    }

    int cameIn() {
        if (ways.size() > 6) {
            return FULL;
        }
        int from = 0;
        for (int place = 0; place < 8; place++) {
            if (canShow(new State(place, List.of(), 0), 0, new HashSet<>())) {
                from |= 1 << place;
            }
        }
        return from;
    }

    private int hops(int from, int to) {
        int reached = 1 << from;
        for (int n = 0; n < 8; n++) {
            if ((reached >> to & 1) != 0) {
                return n;
            }
            int more = reached;
            for (int[] way : ways) {
                if ((reached >> way[0] & 1) != 0 || (reached >> way[1] & 1) != 0) {
                    more |= 1 << way[0] | 1 << way[1];
                }
            }
            reached = more;
        }
        return 99;
    }

    private int wolfGoes(int wolf, int walkerPlace) {
        for (int way = 0; way < ways.size(); way++) {
            int there = other(way, wolf);
            if (there != NONE && hops(there, walkerPlace) < hops(wolf, walkerPlace)) {
                return there;
            }
        }
        return wolf;
    }

    private boolean escapes(State state, int wolf, int home, Map<Visit, Boolean> known) {
        Boolean before = known.get(new Visit(state, wolf));
        if (before != null) {
            return before;
        }
        boolean escapes = false;
        for (int way = 0; way < ways.size() && !escapes; way++) {
            if (kind(state, way) != 0) {
                State then = after(state, way);
                if (then.place != wolf) {
                    int wolfThen = wolfGoes(wolf, then.place);
                    escapes = then.place == home
                            || wolfThen != then.place && escapes(then, wolfThen, home, known);
                }
            }
        }
        known.put(new Visit(state, wolf), escapes);
        return escapes;
    }

    int safe(int walker, int wolf) {
        if (!in(walker, 4) || !in(wolf, 8)) {
            return BAD;
        }
        if (ways.size() > 6) {
            return FULL;
        }
        State state = new Told(walker).state;
        if (state.place == wolf) {
            return 0;
        }
        return state.place == homes[walker] || escapes(state, wolf, homes[walker], new HashMap<>()) ? 1 : 0;
    }

    // ---- sheets

    private int finding(int number) {
        latest = number;
        return -10 - number;
    }

    int sheet(int s, int form, int n) {
        if (!in(s, 4) || !in(form, 3) || n > 48) {
            return BAD;
        }
        if (n < 0) {
            return finding(5);
        }
        sheets[s] = new int[n];
        forms[s] = form;
        return n;
    }

    int lose(int s) {
        if (!in(s, 4)) {
            return BAD;
        }
        if (sheets[s] == null) {
            return finding(1);
        }
        int had = sheets[s].length;
        sheets[s] = null;
        return had;
    }

    private void set(int s, int i, int v) {
        int bits = 32 - (forms[s] == 0 ? 8 : forms[s] == 1 ? 16 : 32);
        sheets[s][i] = v << bits >> bits;
    }

    int put(int s, int form, int i, int v) {
        if (!in(s, 4) || !in(form, 3)) {
            return BAD;
        }
        if (sheets[s] == null) {
            return finding(1);
        }
        if (forms[s] != form) {
            return finding(3);
        }
        if (!in(i, sheets[s].length)) {
            return finding(2);
        }
        set(s, i, v);
        return 1;
    }

    int get(int s, int form, int i) {
        if (!in(s, 4) || !in(form, 3)) {
            return Integer.MIN_VALUE;
        }
        if (sheets[s] == null) {
            finding(1);
            return Integer.MIN_VALUE;
        }
        if (forms[s] != form) {
            finding(3);
            return Integer.MIN_VALUE;
        }
        if (!in(i, sheets[s].length)) {
            finding(2);
            return Integer.MIN_VALUE;
        }
        return sheets[s][i];
    }

    int copy(int s, int i, int t, int j, int n) {
        if (!in(s, 4) || !in(t, 4)) {
            return BAD;
        }
        if (sheets[s] == null || sheets[t] == null) {
            return finding(1);
        }
        if (forms[s] != forms[t]) {
            return finding(4);
        }
        if (i < 0 || j < 0 || n < 0 || (long) i + n > sheets[s].length || (long) j + n > sheets[t].length) {
            return finding(2);
        }
        int[] as = sheets[s].clone();
        for (int k = 0; k < n; k++) {
            sheets[t][j + k] = as[i + k];
        }
        return 1;
    }

    int write(int walker, int s) {
        if (!in(walker, 4) || !in(s, 4)) {
            return BAD;
        }
        if (sheets[s] == null) {
            return finding(1);
        }
        int many = Math.min(8, sheets[s].length);
        for (int i = 0; i < many; i++) {
            set(s, i, soon(walker, i));
        }
        return many;
    }

    int count(int what) {
        if (!in(what, 9)) {
            return BAD;
        }
        int minutes = 0;
        for (int[] way : ways) {
            minutes += way[2];
        }
        int[] counts = {ways.size(), texts[0].length(), texts[1].length(), texts[2].length(), texts[3].length(),
            texts[4].length(), sights.size(), minutes, latest};
        return counts[what];
    }

    long digest() {
        List<Integer> told = new ArrayList<>();
        for (int what = 0; what <= 7; what++) {
            told.add(count(what));
        }
        told.add(fault());
        for (int[] way : ways) {
            told.addAll(List.of(way[0], way[1], way[2]));
        }
        for (int w = 0; w < 4; w++) {
            told.addAll(List.of(judged(w), place(w), open(w, NONE), gone(w), spent(w), still(w), never(w)));
            for (int place = 0; place < 8; place++) {
                told.add(soon(w, place));
            }
            int next = (w + 1) % 4;
            told.addAll(List.of(thread(w, 0), thread(w, 1), errands(w, 21, NONE),
                    meeting(w, next, 0), meeting(w, next, 1), lent(w, next)));
        }
        told.add(cameIn());
        long h = 17;
        for (int answer : told) {
            h = 31 * h + answer;
        }
        return h;
    }
}
