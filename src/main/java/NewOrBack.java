import java.util.Arrays;

/**
 * A wood in which whoever has gone a way may only go on by a new one, or back by the last that one
 * came by and has not gone back yet. Every row is made with the object; no call makes another.
 */
public final class NewOrBack {
    public static final int NONE = -1, BAD = -2, NOT = -3, FULL = -4;

    private static final int PLACES = 8, ALL_PLACES = 255;
    private static final int WAYS = 12, FEW_WAYS = 6;
    private static final int WALKERS = 4;
    private static final int TEXTS = 5, WOOD_BYTES = 60, WALK_BYTES = 24;
    private static final int NO_STEP = 0, NEW = 1, BACK = 2;
    private static final int NULL = 1, INDEX = 2, CAST = 3, STORE = 4, SIZE = 5;
    private static final int LEAST_INT = 1 << 31;

    private final int[][] texts = new int[TEXTS][WOOD_BYTES];
    private final int[] lengths = new int[TEXTS];
    private final Wood wood = new Wood();
    private final Walk[] walks = new Walk[WALKERS];
    private final Walk spare = new Walk(wood);
    private final Round round = new Round(wood);
    private final Sights sights = new Sights(wood);
    private final Hunt hunt = new Hunt(wood);
    private final Sheets sheets = new Sheets();

    public NewOrBack() {
        for (int walker = 0; walker < WALKERS; walker++) {
            walks[walker] = new Walk(wood);
        }
        settle(0);
    }

    // ---- the wood

    public int type(int text, int b) {
        if (!within(text, TEXTS) || b < 0 || b > 255) {
            return BAD;
        }
        int length = lengths[text];
        if (length >= roomOf(text)) {
            return FULL;
        }
        texts[text][length] = b;
        lengths[text] = length + 1;
        settle(text);
        return length + 1;
    }

    public int wipe(int text) {
        if (!within(text, TEXTS)) {
            return BAD;
        }
        int length = lengths[text];
        lengths[text] = 0;
        settle(text);
        return length;
    }

    public int fault() {
        return wood.fault;
    }

    public int way(int way, int what) {
        if (!within(way, wood.count) || !within(what, 3)) {
            return BAD;
        }
        if (what == 2) {
            return wood.minutes[way];
        }
        return what == 0 ? wood.from[way] : wood.to[way];
    }

    public int home(int walker, int place) {
        if (!within(walker, WALKERS) || !within(place, PLACES)) {
            return BAD;
        }
        int before = walks[walker].home;
        walks[walker].home = place;
        settle(walker + 1);
        return before;
    }

    public int read(int s, int walker) {
        if (!sheets.has(s) || !within(walker, WALKERS)) {
            return BAD;
        }
        if (sheets.isLost(s)) {
            return sheets.find(NULL);
        }
        int text = walker + 1;
        int length = 0;
        while (length < WALK_BYTES && length < sheets.sizes[s] && within(sheets.items[s][length], WAYS)) {
            texts[text][length] = 'a' + sheets.items[s][length];
            length++;
        }
        lengths[text] = length;
        settle(text);
        return length;
    }

    // ---- walks

    public int judged(int walker) {
        return within(walker, WALKERS) ? walks[walker].judged : BAD;
    }

    public int place(int walker) {
        return within(walker, WALKERS) ? walks[walker].place : BAD;
    }

    public int open(int walker, int i) {
        if (!within(walker, WALKERS) || i < NONE) {
            return BAD;
        }
        Walk walk = walks[walker];
        if (i == NONE) {
            return walk.size;
        }
        return i < walk.size ? walk.open[i] : NONE;
    }

    public int gone(int walker) {
        return within(walker, WALKERS) ? walks[walker].gone : BAD;
    }

    public int spent(int walker) {
        return within(walker, WALKERS) ? walks[walker].spent : BAD;
    }

    public int may(int walker, int way) {
        if (!within(walker, WALKERS) || !within(way, wood.count)) {
            return BAD;
        }
        return walks[walker].kindOf(way);
    }

    // ---- where one can come

    public int soon(int walker, int place) {
        if (!within(walker, WALKERS) || !within(place, PLACES)) {
            return BAD;
        }
        return walks[walker].soonTo(place);
    }

    public int still(int walker) {
        return within(walker, WALKERS) ? walks[walker].still : BAD;
    }

    public int never(int walker) {
        return within(walker, WALKERS) ? walks[walker].been & ~walks[walker].still : BAD;
    }

    public int keeps(int walker, int way, int places) {
        if (!within(walker, WALKERS) || !within(way, wood.count) || !within(places, ALL_PLACES + 1)) {
            return BAD;
        }
        spare.become(walks[walker]);
        int kind = spare.kindOf(way);
        if (kind == NO_STEP) {
            return NOT;
        }
        spare.step(way, kind);
        spare.look(0);
        return (places & ~spare.still) == 0 ? 1 : 0;
    }

    public int errands(int walker, int places, int i) {
        if (!within(walker, WALKERS) || !within(places, ALL_PLACES + 1) || i < NONE) {
            return BAD;
        }
        Walk walk = walks[walker];
        if (wood.count - Integer.bitCount(walk.gone) > FEW_WAYS) {
            return FULL;
        }
        round.begin(walk, places);
        return i == NONE ? round.minutes() : round.wayAt(i);
    }

    public int meeting(int a, int b, int what) {
        if (!areTwo(a, b) || !within(what, 2)) {
            return BAD;
        }
        int where = NONE;
        int when = NONE;
        for (int place = 0; place < PLACES; place++) {
            int first = walks[a].soonTo(place);
            int second = walks[b].soonTo(place);
            int later = Math.max(first, second);
            if (first != NONE && second != NONE && (where == NONE || later < when)) {
                where = place;
                when = later;
            }
        }
        return what == 0 ? where : when;
    }

    public int lent(int a, int b) {
        if (!areTwo(a, b)) {
            return BAD;
        }
        spare.become(walks[b]);
        spare.gone |= walks[a].gone;
        spare.look(0);
        return spare.still;
    }

    // ---- threads, sights, wolves

    public int lost(int walker, int ways) {
        if (!within(walker, WALKERS) || !within(ways, 1 << wood.count)) {
            return BAD;
        }
        spare.become(walks[walker]);
        spare.look(ways);
        return has(spare.still, spare.home) ? 0 : 1;
    }

    public int thread(int walker, int what) {
        if (!within(walker, WALKERS) || !within(what, 2)) {
            return BAD;
        }
        int cut = fewestCut(walks[walker]);
        return cut == NONE || what == 1 ? cut : Integer.bitCount(cut);
    }

    public int seen(int way, int place) {
        if (!within(way, WAYS) || !within(place, PLACES)) {
            return BAD;
        }
        return sights.add(way, place) ? sights.count : FULL;
    }

    public int forget() {
        int before = sights.count;
        sights.count = 0;
        return before;
    }

    public int cameIn() {
        return wood.count > FEW_WAYS ? FULL : sights.beginnings();
    }

    public int safe(int walker, int wolf) {
        if (!within(walker, WALKERS) || !within(wolf, PLACES)) {
            return BAD;
        }
        if (wood.count > FEW_WAYS) {
            return FULL;
        }
        return hunt.isEscaped(walks[walker], wolf) ? 1 : 0;
    }

    // ---- sheets

    public int sheet(int s, int form, int n) {
        if (!sheets.has(s) || !sheets.isForm(form) || n > Sheets.MOST) {
            return BAD;
        }
        if (n < 0) {
            return sheets.find(SIZE);
        }
        sheets.renew(s, form, n);
        return n;
    }

    public int lose(int s) {
        if (!sheets.has(s)) {
            return BAD;
        }
        if (sheets.isLost(s)) {
            return sheets.find(NULL);
        }
        sheets.forms[s] = NONE;
        return sheets.sizes[s];
    }

    public int put(int s, int form, int i, int v) {
        if (!sheets.has(s) || !sheets.isForm(form)) {
            return BAD;
        }
        int finding = sheets.findingOf(s, form, i);
        if (finding != 0) {
            return sheets.find(finding);
        }
        sheets.set(s, i, v);
        return 1;
    }

    public int get(int s, int form, int i) {
        if (!sheets.has(s) || !sheets.isForm(form)) {
            return LEAST_INT;
        }
        int finding = sheets.findingOf(s, form, i);
        if (finding != 0) {
            sheets.find(finding);
            return LEAST_INT;
        }
        return sheets.items[s][i];
    }

    public int copy(int s, int i, int t, int j, int n) {
        if (!sheets.has(s) || !sheets.has(t)) {
            return BAD;
        }
        if (sheets.isLost(s) || sheets.isLost(t)) {
            return sheets.find(NULL);
        }
        if (sheets.forms[s] != sheets.forms[t]) {
            return sheets.find(STORE);
        }
        if (!sheets.holds(s, i, n) || !sheets.holds(t, j, n)) {
            return sheets.find(INDEX);
        }
        System.arraycopy(sheets.items[s], i, sheets.items[t], j, n);
        return 1;
    }

    public int write(int walker, int s) {
        if (!within(walker, WALKERS) || !sheets.has(s)) {
            return BAD;
        }
        if (sheets.isLost(s)) {
            return sheets.find(NULL);
        }
        int many = Math.min(sheets.sizes[s], PLACES);
        for (int place = 0; place < many; place++) {
            sheets.set(s, place, walks[walker].soonTo(place));
        }
        return many;
    }

    public int count(int what) {
        if (what == 0) {
            return wood.count;
        }
        if (what >= 1 && what <= TEXTS) {
            return lengths[what - 1];
        }
        if (what == 6) {
            return sights.count;
        }
        if (what == 7) {
            return wood.allMinutes();
        }
        return what == 8 ? sheets.latest : BAD;
    }

    public long digest() {
        long h = 17;
        for (int what = 0; what < 8; what++) {
            h = 31 * h + count(what);
        }
        h = 31 * h + fault();
        for (int way = 0; way < wood.count; way++) {
            for (int what = 0; what < 3; what++) {
                h = 31 * h + way(way, what);
            }
        }
        for (int walker = 0; walker < WALKERS; walker++) {
            int next = walker + 1 < WALKERS ? walker + 1 : 0;
            h = 31 * h + judged(walker);
            h = 31 * h + place(walker);
            h = 31 * h + open(walker, NONE);
            h = 31 * h + gone(walker);
            h = 31 * h + spent(walker);
            h = 31 * h + still(walker);
            h = 31 * h + never(walker);
            for (int place = 0; place < PLACES; place++) {
                h = 31 * h + soon(walker, place);
            }
            h = 31 * h + thread(walker, 0);
            h = 31 * h + thread(walker, 1);
            h = 31 * h + errands(walker, 21, NONE);
            h = 31 * h + meeting(walker, next, 0);
            h = 31 * h + meeting(walker, next, 1);
            h = 31 * h + lent(walker, next);
        }
        return 31 * h + cameIn();
    }

    // ---- what several calls share

    private static boolean within(int number, int bound) {
        return number >= 0 && number < bound;
    }

    private static boolean has(int set, int member) {
        return (set >> member & 1) != 0;
    }

    private static boolean areTwo(int a, int b) {
        return within(a, WALKERS) && within(b, WALKERS) && a != b;
    }

    private static int roomOf(int text) {
        return text == 0 ? WOOD_BYTES : WALK_BYTES;
    }

    /** A changed wood changes every walk, a changed walk only itself. */
    private void settle(int text) {
        if (text == 0) {
            wood.take(texts[0], lengths[0]);
        }
        for (int walker = 0; walker < WALKERS; walker++) {
            if (text == 0 || text == walker + 1) {
                walks[walker].follow(texts[walker + 1], lengths[walker + 1]);
            }
        }
    }

    /**
     * Whoever is lost still comes to some places, HOME not among them, and is held there by one way
     * of those open behind and by all ways not gone that lead out: so it is enough to try all such
     * sets of places instead of all sets of ways.
     */
    private int fewestCut(Walk walk) {
        int best = NONE;
        for (int side = 0; side <= ALL_PLACES; side++) {
            if (has(side, walk.place) && !has(side, walk.home)) {
                int cut = wood.leadingOut(side) & ~walk.gone | 1 << walk.leastOpenFrom(side);
                if (best == NONE || isFewer(cut, best)) {
                    best = cut;
                }
            }
        }
        return best;
    }

    private static boolean isFewer(int ways, int than) {
        int more = Integer.bitCount(ways) - Integer.bitCount(than);
        return more < 0 || more == 0 && ways < than;
    }

    /** The ways that the text of the wood tells. */
    private static final class Wood {
        private final int[] from = new int[WAYS];
        private final int[] to = new int[WAYS];
        private final int[] minutes = new int[WAYS];
        private int count;
        private int fault;

        /** Three figures and a ; make four bytes a way, so a byte's place tells what it must be. */
        void take(int[] text, int length) {
            fault = NONE;
            for (int i = 0; i < length && fault == NONE; i++) {
                if (!goesOn(text, i)) {
                    fault = i;
                }
            }
            if (fault == NONE && length > 0 && length % 4 != 3) {
                fault = length;
            }
            count = fault == NONE ? Math.min((length + 1) / 4, WAYS) : 0;
            for (int way = 0; way < count; way++) {
                from[way] = text[4 * way] - '0';
                to[way] = text[4 * way + 1] - '0';
                minutes[way] = text[4 * way + 2] - '0';
            }
        }

        private static boolean goesOn(int[] text, int i) {
            int b = text[i];
            int part = i % 4;
            if (part == 3) {
                return b == ';';
            }
            if (part == 2) {
                return b >= '1' && b <= '9';
            }
            boolean isPlace = b >= '0' && b <= '7';
            return isPlace && (part == 0 ? i < 4 * WAYS : b != text[i - 1]);
        }

        /** The other end of a way; NONE, if there is no such way at the place. */
        int other(int way, int place) {
            if (way < 0 || way >= count) {
                return NONE;
            }
            if (from[way] == place) {
                return to[way];
            }
            return to[way] == place ? from[way] : NONE;
        }

        int endsOf(int way) {
            return 1 << from[way] | 1 << to[way];
        }

        /** The ways with one end in a set of places, and one outside it. */
        int leadingOut(int side) {
            int ways = 0;
            for (int way = 0; way < count; way++) {
                if (has(side, from[way]) != has(side, to[way])) {
                    ways |= 1 << way;
                }
            }
            return ways;
        }

        int allMinutes() {
            int sum = 0;
            for (int way = 0; way < count; way++) {
                sum += minutes[way];
            }
            return sum;
        }
    }

    /** Where somebody stands, and how: what is open behind, what was gone. */
    private static final class Walk {
        private static final int FAR = 1 << 20;

        private final Wood wood;
        private final int[] open = new int[WAYS];
        private final int[] behind = new int[WAYS];
        private final int[] soon = new int[PLACES];
        private int home;
        private int place;
        private int size;
        private int gone;
        private int spent;
        private int been;
        private int judged;
        private int still;

        Walk(Wood wood) {
            this.wood = wood;
        }

        void begin(int where) {
            place = where;
            size = 0;
            gone = 0;
            spent = 0;
            been = 1 << where;
            judged = NONE;
        }

        /** Stands as another does: the same steps may be. */
        void become(Walk like) {
            System.arraycopy(like.open, 0, open, 0, WAYS);
            System.arraycopy(like.behind, 0, behind, 0, WAYS);
            home = like.home;
            place = like.place;
            size = like.size;
            gone = like.gone;
        }

        void follow(int[] text, int length) {
            begin(home);
            for (int i = 0; i < length && judged == NONE; i++) {
                int way = text[i] - 'a';
                int kind = kindOf(way);
                if (kind == NO_STEP) {
                    judged = i;
                } else {
                    step(way, kind);
                }
            }
            look(0);
        }

        int kindOf(int way) {
            if (wood.other(way, place) == NONE) {
                return NO_STEP;
            }
            if (!has(gone, way)) {
                return NEW;
            }
            return size > 0 && open[size - 1] == way ? BACK : NO_STEP;
        }

        /** Takes a step of the kind that kindOf() told of the way. */
        void step(int way, int kind) {
            if (kind == NEW) {
                goNew(way);
            } else {
                goBack();
            }
            spent += wood.minutes[way];
            been |= 1 << place;
        }

        void goNew(int way) {
            int there = wood.other(way, place);
            if (there != NONE && size < WAYS) {
                open[size] = way;
                behind[size] = place;
                size++;
                gone |= 1 << way;
                place = there;
            }
        }

        void goBack() {
            if (size > 0) {
                size--;
                place = behind[size];
            }
        }

        /** As if the last step, a new one, had not been. */
        void undoNew() {
            goBack();
            gone &= ~(1 << open[size]);
        }

        /** As if the last step, back by a way, had not been. */
        void undoBack(int way) {
            goNew(way);
        }

        /**
         * How soon one comes to each place, if some ways are cut. What is gone and come back from
         * only takes ways away: so one first goes back as far as need be, and then on by new ways.
         */
        void look(int cut) {
            Arrays.fill(soon, FAR);
            soon[place] = 0;
            int time = 0;
            for (int i = size - 1; i >= 0 && !has(cut, open[i]); i--) {
                time += wood.minutes[open[i]];
                soon[behind[i]] = Math.min(soon[behind[i]], time);
            }
            boolean sooner = true;
            for (int pass = 0; pass < PLACES && sooner; pass++) {
                sooner = goOn(gone | cut);
            }
            still = 0;
            for (int i = 0; i < PLACES; i++) {
                still |= soon[i] < FAR ? 1 << i : 0;
            }
        }

        private boolean goOn(int shut) {
            boolean sooner = false;
            for (int way = 0; way < wood.count; way++) {
                if (!has(shut, way)) {
                    int a = wood.from[way];
                    int b = wood.to[way];
                    int least = Math.min(soon[a], soon[b]) + wood.minutes[way];
                    if (least < soon[a] || least < soon[b]) {
                        soon[a] = Math.min(soon[a], least);
                        soon[b] = Math.min(soon[b], least);
                        sooner = true;
                    }
                }
            }
            return sooner;
        }

        int soonTo(int where) {
            return soon[where] < FAR ? soon[where] : NONE;
        }

        /** The least of the open ways by which one goes back out of places of a set alone. */
        int leastOpenFrom(int side) {
            int least = WAYS;
            int here = place;
            for (int i = size - 1; i >= 0 && has(side, here); i--) {
                least = Math.min(least, open[i]);
                here = behind[i];
            }
            return least;
        }
    }

    /**
     * Errands. A row of steps to HOME goes back by some open ways, then by a road of new ways that
     * stay open; on the way it goes aside by new ways, each there and back. Which ways are road and
     * which are aside tells its minutes and steps, and whether it can be: so sets of ways are tried,
     * not rows. A COST is minutes and steps in one number that compares as they do.
     */
    private static final class Round {
        private static final int MINUTE = 64, MOST = 1 << 20, SETS = 1 << FEW_WAYS;

        private final Wood wood;
        private final Walk at;
        private final int[] free = new int[FEW_WAYS];
        private final int[] cost = new int[SETS];
        private final int[] ends = new int[SETS];
        private final int[] odd = new int[SETS];
        private int frees;
        private int places;
        private int total;

        Round(Wood wood) {
            this.wood = wood;
            at = new Walk(wood);
        }

        void begin(Walk walk, int errands) {
            places = errands;
            at.become(walk);
            at.been = 1 << at.place;
            frees = 0;
            for (int way = 0; way < wood.count; way++) {
                if (!has(at.gone, way) && frees < FEW_WAYS) {
                    free[frees] = way;
                    frees++;
                }
            }
            tellSets();
            total = leastCost(MOST);
        }

        int minutes() {
            return total > MOST ? NONE : total / MINUTE;
        }

        /** The i-th step of the least row. */
        int wayAt(int i) {
            if (total > MOST || i >= total % MINUTE) {
                return NONE;
            }
            int left = total;
            int way = NONE;
            for (int step = 0; step <= i; step++) {
                way = goLeastStep(left);
                if (way == NONE) {
                    return NONE;
                }
                left -= costOf(way);
            }
            return way;
        }

        private int costOf(int way) {
            return wood.minutes[way] * MINUTE + 1;
        }

        /** Goes by the least letter behind which the rest costs what is left, and not more. */
        private int goLeastStep(int left) {
            for (int way = 0; way < wood.count; way++) {
                int kind = at.kindOf(way);
                int rest = left - costOf(way);
                if (kind != NO_STEP && rest >= 0) {
                    int been = at.been;
                    at.step(way, kind);
                    if (leastCost(rest) <= rest) {
                        return way;
                    }
                    at.been = been;
                    if (kind == NEW) {
                        at.undoNew();
                    } else {
                        at.undoBack(way);
                    }
                }
            }
            return NONE;
        }

        /** Of each set of free ways: its cost once, the places at its ends, those with odd many ends. */
        private void tellSets() {
            cost[0] = 0;
            ends[0] = 0;
            odd[0] = 0;
            for (int i = 0; i < frees; i++) {
                int one = 1 << i;
                int both = wood.endsOf(free[i]);
                for (int rest = 0; rest < one; rest++) {
                    cost[one | rest] = cost[rest] + costOf(free[i]);
                    ends[one | rest] = ends[rest] | both;
                    odd[one | rest] = odd[rest] ^ both;
                }
            }
        }

        /** The least cost from here, if it is not above a limit; else one that is above it. */
        private int leastCost(int limit) {
            int left = 0;
            for (int i = 0; i < frees; i++) {
                left |= has(at.gone, free[i]) ? 0 : 1 << i;
            }
            int least = limit + 1;
            int on = 1 << at.place;
            int back = 0;
            least = byRoads(at.place, on, back, left, least);
            for (int i = at.size - 1; i >= 0 && back < least; i--) {
                back += costOf(at.open[i]);
                on |= 1 << at.behind[i];
                least = byRoads(at.behind[i], on, back, left, least);
            }
            return least;
        }

        /** A set of ways is a road, if it hangs together and no ends but its first and last are odd. */
        private int byRoads(int here, int on, int before, int left, int bound) {
            int least = bound;
            int oddEnds = 1 << here ^ 1 << at.home;
            for (int road = 0; road <= left; road++) {
                int sum = before + cost[road];
                if ((road & ~left) == 0 && sum < least && odd[road] == oddEnds
                        && (ends[road] & ~spread(1 << here, road)) == 0) {
                    least = withAsides(on | ends[road], sum, left & ~road, least);
                }
            }
            return least;
        }

        private int withAsides(int on, int before, int left, int bound) {
            int missing = places & ~at.been & ~on;
            if (missing == 0) {
                return Math.min(before, bound);
            }
            int least = bound;
            for (int aside = 1; aside <= left; aside++) {
                int sum = before + 2 * cost[aside];
                if ((aside & ~left) == 0 && sum < least && (missing & ~ends[aside]) == 0
                        && (missing & ~spread(on, aside)) == 0) {
                    least = sum;
                }
            }
            return least;
        }

        /** All places that hang together with some by a set of ways. */
        private int spread(int from, int ways) {
            int reached = from;
            for (int pass = 0; pass < frees && (ends[ways] & ~reached) != 0; pass++) {
                for (int i = 0; i < frees; i++) {
                    int one = 1 << i;
                    if ((ways & one) != 0 && (ends[one] & reached) != 0) {
                        reached |= ends[one];
                    }
                }
            }
            return reached;
        }
    }

    /** Steps that were seen, and from where somebody could have come. */
    private static final class Sights {
        private static final int MOST = 4;

        private final Wood wood;
        private final Walk at;
        private final int[] ways = new int[MOST];
        private final int[] places = new int[MOST];
        private int count;

        Sights(Wood wood) {
            this.wood = wood;
            at = new Walk(wood);
        }

        boolean add(int way, int place) {
            if (count >= MOST) {
                return false;
            }
            ways[count] = way;
            places[count] = place;
            count++;
            return true;
        }

        int beginnings() {
            for (int i = 0; i < count; i++) {
                if (wood.other(ways[i], places[i]) == NONE) {
                    return 0;
                }
            }
            int from = 0;
            for (int place = 0; place < PLACES; place++) {
                at.begin(place);
                if (goesOn(0, 1 << place, 2 * FEW_WAYS)) {
                    from |= 1 << place;
                }
            }
            return from;
        }

        /**
         * Whether the sights from one on can still be. Of walks that show them take the one that
         * shows each as soon as can be: between two sights it goes back, then on by new ways to
         * places other than those of this trail. (Who goes there and back unseen could have left it;
         * who goes round unseen could leave it, and go the round the other way instead of back.)
         */
        private boolean goesOn(int sight, int trail, int stepsLeft) {
            if (sight >= count) {
                return true;
            }
            if (stepsLeft <= 0 || !areLeft(sight)) {
                return false;
            }
            return goesOnBack(sight, trail, stepsLeft) || goesOnNew(sight, trail, stepsLeft);
        }

        private boolean goesOnBack(int sight, int trail, int stepsLeft) {
            if (at.size <= 0) {
                return false;
            }
            int way = at.open[at.size - 1];
            int there = at.behind[at.size - 1];
            boolean isSeen = ways[sight] == way && places[sight] == there;
            if (!isSeen && trail != 1 << at.place) {
                return false;
            }
            at.goBack();
            boolean goes = goesOn(isSeen ? sight + 1 : sight, 1 << there, stepsLeft - 1);
            at.undoBack(way);
            return goes;
        }

        private boolean goesOnNew(int sight, int trail, int stepsLeft) {
            for (int way = 0; way < wood.count; way++) {
                int there = wood.other(way, at.place);
                if (there != NONE && !has(at.gone, way)) {
                    boolean isSeen = ways[sight] == way && places[sight] == there;
                    if (isSeen || !has(trail, there)) {
                        at.goNew(way);
                        int after = isSeen ? 1 << there : trail | 1 << there;
                        boolean goes = goesOn(isSeen ? sight + 1 : sight, after, stepsLeft - 1);
                        at.undoNew();
                        if (goes) {
                            return true;
                        }
                    }
                }
            }
            return false;
        }

        /** No step goes by a way that was gone and come back by. */
        private boolean areLeft(int sight) {
            int usable = ~at.gone;
            for (int i = 0; i < at.size; i++) {
                usable |= 1 << at.open[i];
            }
            for (int i = sight; i < count; i++) {
                if (!has(usable, ways[i])) {
                    return false;
                }
            }
            return true;
        }
    }

    /** A wolf that hunts. */
    private static final class Hunt {
        private final Wood wood;
        private final Walk at;
        private final int[][] hops = new int[PLACES][PLACES];

        Hunt(Wood wood) {
            this.wood = wood;
            at = new Walk(wood);
        }

        boolean isEscaped(Walk walk, int wolf) {
            at.become(walk);
            if (at.place == wolf) {
                return false;
            }
            if (at.place == at.home) {
                return true;
            }
            for (int place = 0; place < PLACES; place++) {
                tellHops(place);
            }
            return escapes(wolf, 2 * FEW_WAYS);
        }

        private void tellHops(int place) {
            int[] row = hops[place];
            Arrays.fill(row, PLACES);
            row[place] = 0;
            for (int pass = 0; pass < FEW_WAYS; pass++) {
                for (int way = 0; way < wood.count; way++) {
                    int a = wood.from[way];
                    int b = wood.to[way];
                    row[a] = Math.min(row[a], row[b] + 1);
                    row[b] = Math.min(row[b], row[a] + 1);
                }
            }
        }

        private int wolfStep(int wolf) {
            int[] row = hops[at.place];
            for (int way = 0; way < wood.count; way++) {
                int there = wood.other(way, wolf);
                if (there != NONE && row[there] < row[wolf]) {
                    return there;
                }
            }
            return wolf;
        }

        /** Whether somebody neither caught nor safe can come to be safe. */
        private boolean escapes(int wolf, int stepsLeft) {
            if (stepsLeft <= 0) {
                return false;
            }
            return escapesBack(wolf, stepsLeft) || escapesNew(wolf, stepsLeft);
        }

        private boolean escapesBack(int wolf, int stepsLeft) {
            if (at.size <= 0) {
                return false;
            }
            int way = at.open[at.size - 1];
            at.goBack();
            boolean escaped = endsWell(wolf, stepsLeft);
            at.undoBack(way);
            return escaped;
        }

        private boolean escapesNew(int wolf, int stepsLeft) {
            for (int way = 0; way < wood.count; way++) {
                if (at.kindOf(way) == NEW) {
                    at.goNew(way);
                    boolean escaped = endsWell(wolf, stepsLeft);
                    at.undoNew();
                    if (escaped) {
                        return true;
                    }
                }
            }
            return false;
        }

        private boolean endsWell(int wolf, int stepsLeft) {
            if (at.place == wolf) {
                return false;
            }
            if (at.place == at.home) {
                return true;
            }
            int then = wolfStep(wolf);
            return then != at.place && escapes(then, stepsLeft - 1);
        }
    }

    /** Rows of bytes, shorts or ints, and the latest finding. */
    private static final class Sheets {
        private static final int MANY = 4, MOST = 48;
        private static final int BYTES = 0, SHORTS = 1, INTS = 2;

        private final int[][] items = new int[MANY][MOST];
        private final int[] sizes = new int[MANY];
        private final int[] forms = new int[MANY];
        private int latest;

        Sheets() {
            Arrays.fill(forms, NONE);
        }

        boolean has(int s) {
            return within(s, MANY);
        }

        boolean isForm(int form) {
            return within(form, INTS + 1);
        }

        boolean isLost(int s) {
            return forms[s] == NONE;
        }

        int find(int finding) {
            latest = finding;
            return -10 - finding;
        }

        void renew(int s, int form, int n) {
            Arrays.fill(items[s], 0);
            sizes[s] = n;
            forms[s] = form;
        }

        /** What stands against item i of a sheet, treated as of a form; 0: nothing. */
        int findingOf(int s, int form, int i) {
            if (isLost(s)) {
                return NULL;
            }
            if (forms[s] != form) {
                return CAST;
            }
            return within(i, sizes[s]) ? 0 : INDEX;
        }

        boolean holds(int s, int i, int n) {
            return i >= 0 && n >= 0 && i <= sizes[s] && n <= sizes[s] - i;
        }

        void set(int s, int i, int v) {
            int form = forms[s];
            items[s][i] = form == BYTES ? (byte) v : form == SHORTS ? (short) v : v;
        }
    }
}
