import java.util.ArrayList;
import java.util.List;
import java.util.function.Consumer;
import java.util.function.ToLongFunction;

/** What an object tells of its four solids, read over several objects that lived the same story. */
final class State {
    // A story of up to 112 calls and so many questions stay within the 512 that an object is good for.
    private static final int QUESTIONS_EACH = 400;

    private static final List<ToLongFunction<OctreeSolid>> QUESTIONS = questions();

    private State() {
    }

    private static List<ToLongFunction<OctreeSolid>> questions() {
        List<ToLongFunction<OctreeSolid>> all = new ArrayList<>();
        for (int n = 0; n < 4; n++) {
            final int r = n;
            for (int m = 0; m < 512; m++) {
                final int c = m;
                all.add(x -> x.has(r, c) ? 1 : 0);
            }
            for (int m = 0; m < 4; m++) {
                final int other = m;
                all.add(x -> x.same(r, other) ? 1 : 0);
                all.add(x -> x.inside(r, other) ? 1 : 0);
                all.add(x -> x.kinds(r, other));
            }
            for (int corner : Shapes.CORNERS) {
                all.add(x -> x.order(r, corner));
                all.add(x -> x.next(r, corner));
            }
            all.add(x -> x.volume(r));
            all.add(x -> x.surface(r));
        }
        return all;
    }

    static long[] after(Consumer<OctreeSolid> story) {
        long[] answers = new long[QUESTIONS.size()];
        OctreeSolid x = null;
        for (int i = 0; i < answers.length; i++) {
            if (i % QUESTIONS_EACH == 0) {
                x = new OctreeSolid();
                story.accept(x);
            }
            answers[i] = QUESTIONS.get(i).applyAsLong(x);
        }
        return answers;
    }

    static int differing(long[] before, long[] after) {
        int count = 0;
        for (int i = 0; i < before.length; i++) {
            if (before[i] != after[i]) {
                count++;
            }
        }
        return count;
    }
}
