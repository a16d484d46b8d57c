import java.util.ArrayList;
import java.util.Arrays;
import java.util.List;
import java.util.Map;
import java.util.TreeSet;
import java.util.function.Consumer;

/**
 * The ranges that the document gives: each end is taken, what lies just outside and far outside is
 * refused with the answer that is due, and a refused call leaves every solid as it was.
 */
public final class LimitsTest {
    private static final int FALSE = 0;
    private static final int BAD = -1;

    private static final Map<String, Consumer<OctreeSolid>> STORIES = Map.of(
        "empty", x -> { },
        "full", Shapes::allFull,
        "mixed", Shapes::fill);

    private static final Checks checks = new Checks();

    /** A method, its arguments' ranges, and what it answers when it refuses; true counts 1. */
    private record Method(String name, int refusal, Call call, Range... ranges) {
        String with(int[] values) {
            return name + Arrays.toString(values);
        }

        boolean takes(int[] values) {
            for (int i = 0; i < values.length; i++) {
                if (!ranges[i].has(values[i])) {
                    return false;
                }
            }
            return true;
        }
    }

    private interface Call {
        int on(OctreeSolid x, int[] v);
    }

    private record Range(int least, int greatest) {
        boolean has(long v) {
            return least <= v && v <= greatest;
        }

        int[] ends() {
            return new int[] {least, greatest};
        }

        /** Both ends, the numbers just outside, the least and the greatest int. */
        int[] nearAndExtreme() {
            TreeSet<Integer> found = new TreeSet<>(List.of(least, greatest, Integer.MIN_VALUE, Integer.MAX_VALUE));
            if (least > Integer.MIN_VALUE) {
                found.add(least - 1);
            }
            if (greatest < Integer.MAX_VALUE) {
                found.add(greatest + 1);
            }
            return toArray(found);
        }

        /** Numbers that a shift, a mask or an overflow would take for one inside. */
        int[] lookalikes() {
            TreeSet<Integer> found = new TreeSet<>();
            for (int bit = 0; bit < 32; bit++) {
                for (int end : ends()) {
                    found.add(end + (1 << bit));
                    found.add(end - (1 << bit));
                }
            }
            found.removeIf(this::has);
            return toArray(found);
        }
    }

    private static final Range SOLID = new Range(0, 3);
    private static final Range CELL = new Range(0, 511);
    private static final Range WHAT = new Range(0, 1);
    private static final Range OP = new Range(0, 3);
    private static final Range AXIS = new Range(0, 2);
    private static final Range ORDER = new Range(0, 3);
    private static final Range ANY = new Range(Integer.MIN_VALUE, Integer.MAX_VALUE);

    public static void main(String[] args) {
        promise2Box();
        promise3Combine();
        promise4And15Turn();
        promise5And15Mirror();
        promise6Volume();
        promise7Has();
        promise8Same();
        promise9Inside();
        promise10Cubes();
        promise11Order();
        promise12Surface();
        promise13Next();
        promise14Kinds();
        checks.finish();
    }

    /** "false, changing nothing, when r is not 0 .. 3, c or d is not 0 .. 511 or what is not 0 or 1" */
    private static void promise2Box() {
        limits(new Method("box", FALSE, (x, v) -> bit(x.box(v[0], v[1], v[2], v[3])), SOLID, CELL, CELL, WHAT));
    }

    /** "false, changing nothing, when a solid is not 0 .. 3 or op is not 0 .. 3" */
    private static void promise3Combine() {
        limits(new Method("combine", FALSE, (x, v) -> bit(x.combine(v[0], v[1], v[2], v[3])), SOLID, OP, SOLID, SOLID));
    }

    /** "false when one is not 0 .. 3"; "turn and mirror change nothing when they answer false" */
    private static void promise4And15Turn() {
        limits(new Method("turn", FALSE, (x, v) -> bit(x.turn(v[0], v[1])), SOLID, SOLID));
    }

    /** "false when a solid is not 0 .. 3 or axis is not 0 .. 2"; "... change nothing ..." */
    private static void promise5And15Mirror() {
        limits(new Method("mirror", FALSE, (x, v) -> bit(x.mirror(v[0], v[1], v[2])), SOLID, SOLID, AXIS));
    }

    /** "BAD when it is not 0 .. 3" */
    private static void promise6Volume() {
        limits(new Method("volume", BAD, (x, v) -> x.volume(v[0]), SOLID));
    }

    /** "false when r is not 0 .. 3 or c is not 0 .. 511" */
    private static void promise7Has() {
        limits(new Method("has", FALSE, (x, v) -> bit(x.has(v[0], v[1])), SOLID, CELL));
    }

    /** "false when one is not 0 .. 3" */
    private static void promise8Same() {
        limits(new Method("same", FALSE, (x, v) -> bit(x.same(v[0], v[1])), SOLID, SOLID));
    }

    /** "false when one is not 0 .. 3" */
    private static void promise9Inside() {
        limits(new Method("inside", FALSE, (x, v) -> bit(x.inside(v[0], v[1])), SOLID, SOLID));
    }

    /** "BAD when r is not 0 .. 3" */
    private static void promise10Cubes() {
        limits(new Method("cubes", BAD, (x, v) -> x.cubes(v[0]), SOLID));
    }

    /** "BAD when r is not 0 .. 3 or c is not 0 .. 511" */
    private static void promise11Order() {
        limits(new Method("order", BAD, (x, v) -> x.order(v[0], v[1]), SOLID, CELL));
    }

    /** "BAD when r is not 0 .. 3" */
    private static void promise12Surface() {
        limits(new Method("surface", BAD, (x, v) -> x.surface(v[0]), SOLID));
    }

    /** "BAD when ... r is not 0 .. 3. (c may be any int.)"; EdgesTest has what next answers for each c. */
    private static void promise13Next() {
        Call call = (x, v) -> x.next(v[0], v[1]);
        takesTheEnds(new Method("next", BAD, call, SOLID, CELL));
        refusesTheRest(new Method("next", BAD, call, SOLID, ANY));
    }

    /** "BAD when r is not 0 .. 3 or k is not 0 .. 3" */
    private static void promise14Kinds() {
        limits(new Method("kinds", BAD, (x, v) -> x.kinds(v[0], v[1]), SOLID, ORDER));
    }

    private static void limits(Method method) {
        takesTheEnds(method);
        refusesTheRest(method);
    }

    /** When all solids are full, none of the right calls has the answer of a refused one. */
    private static void takesTheEnds(Method method) {
        for (int[] values : combinations(method, Range::ends)) {
            OctreeSolid x = new OctreeSolid();
            Shapes.allFull(x);
            int answer = method.call.on(x, values);
            checks.due(method.with(values) + " is taken", true, answer != method.refusal);
        }
    }

    private static void refusesTheRest(Method method) {
        STORIES.forEach((name, story) -> {
            long[] before = State.after(story);
            for (int[] values : combinations(method, Range::nearAndExtreme)) {
                if (!method.takes(values)) {
                    isRefused(method, values, name, before);
                }
            }
            for (int[] values : oneLookalike(method)) {
                isRefused(method, values, name, before);
            }
        });
    }

    private static void isRefused(Method method, int[] values, String name, long[] before) {
        Consumer<OctreeSolid> story = STORIES.get(name);
        String what = method.with(values) + " with " + name + " solids";
        OctreeSolid x = new OctreeSolid();
        story.accept(x);
        checks.due(what, method.refusal, method.call.on(x, values));
        long[] after = State.after(story.andThen(y -> method.call.on(y, values)));
        checks.due(what + ": answers changed by the refused call", 0, State.differing(before, after));
    }

    private interface Choice {
        int[] of(Range range);
    }

    /** Each way to give every argument one of the values chosen from its range. */
    private static List<int[]> combinations(Method method, Choice choice) {
        List<int[]> found = new ArrayList<>();
        found.add(new int[0]);
        for (Range range : method.ranges) {
            List<int[]> longer = new ArrayList<>();
            for (int[] start : found) {
                for (int v : choice.of(range)) {
                    int[] values = Arrays.copyOf(start, start.length + 1);
                    values[start.length] = v;
                    longer.add(values);
                }
            }
            found = longer;
        }
        return found;
    }

    /** Right values but for one argument, which is a lookalike. */
    private static List<int[]> oneLookalike(Method method) {
        List<int[]> found = new ArrayList<>();
        for (int i = 0; i < method.ranges.length; i++) {
            for (int v : method.ranges[i].lookalikes()) {
                for (int[] values : combinations(method, Range::ends)) {
                    if (values[i] == method.ranges[i].least) {
                        values[i] = v;
                        found.add(values);
                    }
                }
            }
        }
        return found;
    }

    private static int[] toArray(TreeSet<Integer> numbers) {
        return numbers.stream().mapToInt(Integer::intValue).toArray();
    }

    private static int bit(boolean answer) {
        return answer ? 1 : 0;
    }
}
