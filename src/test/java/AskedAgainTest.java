import java.util.ArrayList;
import java.util.List;
import java.util.Random;

/** Questions change nothing: whatever is asked between, the same question has the same answer. */
public final class AskedAgainTest {
    private static final Checks checks = new Checks();

    private interface Question {
        long of(NewOrBack it);
    }

    private static final List<Question> QUESTIONS = new ArrayList<>();

    private static void questionsOf(int w) {
        QUESTIONS.add(it -> it.judged(w));
        QUESTIONS.add(it -> it.place(w));
        QUESTIONS.add(it -> it.open(w, -1));
        QUESTIONS.add(it -> it.open(w, 0));
        QUESTIONS.add(it -> it.open(w, 1));
        QUESTIONS.add(it -> it.gone(w));
        QUESTIONS.add(it -> it.spent(w));
        QUESTIONS.add(it -> it.still(w));
        QUESTIONS.add(it -> it.never(w));
        QUESTIONS.add(it -> it.thread(w, 0));
        QUESTIONS.add(it -> it.thread(w, 1));
        for (int i = 0; i < 8; i += 3) {
            int n = i;
            QUESTIONS.add(it -> it.soon(w, n));
            QUESTIONS.add(it -> it.safe(w, n));
            QUESTIONS.add(it -> it.may(w, n));
            QUESTIONS.add(it -> it.keeps(w, n, 1 << n));
            QUESTIONS.add(it -> it.lost(w, 1 << n));
            QUESTIONS.add(it -> it.errands(w, 3 << n & 255, -1));
            QUESTIONS.add(it -> it.errands(w, 5 << n & 255, n));
        }
        for (int other = 0; other < 4; other += w == 0 ? 3 : 2) {
            int v = other;
            QUESTIONS.add(it -> it.meeting(w, v, 0));
            QUESTIONS.add(it -> it.meeting(w, v, 1));
            QUESTIONS.add(it -> it.lent(w, v));
        }
    }

    private static void questions() {
        for (int what = 0; what < 8; what++) {
            int n = what;
            QUESTIONS.add(it -> it.count(n));
        }
        QUESTIONS.add(NewOrBack::fault);
        QUESTIONS.add(NewOrBack::cameIn);
        QUESTIONS.add(NewOrBack::digest);
        QUESTIONS.add(it -> it.way(0, 0));
        QUESTIONS.add(it -> it.way(3, 2));
        for (int w = 0; w < 4; w++) {
            questionsOf(w);
        }
    }

    private static NewOrBack made(Random random) {
        NewOrBack it = new NewOrBack();
        int ways = 3 + random.nextInt(random.nextInt(4) == 0 ? 10 : 4);
        int places = 2 + random.nextInt(5);
        for (int way = 0; way < ways; way++) {
            int a = random.nextInt(places);
            int b = (a + 1 + random.nextInt(places - 1)) % places;
            Bench.type(it, 0, (way == 0 ? "" : ";") + a + b + (1 + random.nextInt(9)));
        }
        for (int w = 0; w < 4; w++) {
            it.home(w, random.nextInt(places));
            for (int step = 0; step < 6; step++) {
                it.type(w + 1, 'a' + random.nextInt(ways));
            }
        }
        for (int sight = random.nextInt(3); sight > 0; sight--) {
            it.seen(random.nextInt(ways), random.nextInt(places));
        }
        return it;
    }

    private static void run(long seed) {
        checks.about("run " + seed);
        NewOrBack it = made(new Random(seed));
        int many = QUESTIONS.size();
        long[] first = new long[many];
        for (int i = 0; i < many; i++) {
            first[i] = QUESTIONS.get(i).of(it);
        }
        for (int i = many - 1; i >= 0; i--) {
            checks.due("question " + i + " again", QUESTIONS.get(i).of(it), first[i]);
        }
        NewOrBack like = made(new Random(seed));
        for (int i = many - 1; i >= 0; i--) {
            checks.due("question " + i + " of one alike", QUESTIONS.get(i).of(like), first[i]);
        }
    }

    public static void main(String[] args) {
        questions();
        for (long seed = 0; seed < 300; seed++) {
            run(seed);
        }
        checks.end();
    }
}
