import java.util.function.ToLongFunction;

/** "An object is used for at most 512 calls after it has been made; what later calls answer is free." */
public final class CallsTest {
    private static final int CALLS = 512;
    private static final int[] NUMBERS = {Integer.MIN_VALUE, -1, 0, 3, 4, 511, 512, Integer.MAX_VALUE};

    private static final Checks checks = new Checks();

    public static void main(String[] args) {
        everyCallBuilds();
        everyMethodAsTheLastCall();
        refusedCallsCountForNothingElse();
        laterCallsEnd();
        checks.finish();
    }

    /** The calls before the last one each put in a cell; the last sees all of them. */
    private static void everyCallBuilds() {
        OctreeSolid x = new OctreeSolid();
        for (int call = 1; call < CALLS; call++) {
            checks.due("box as call " + call, true, x.box(call % 4, call, call, 1));
        }
        checks.due("volume as the 512th call", 128, x.volume(3));
    }

    private static void everyMethodAsTheLastCall() {
        last("box", 1, x -> x.box(0, 0, 511, 1) ? 1 : 0);
        last("combine", 1, x -> x.combine(0, 0, 1, 2) ? 1 : 0);
        last("turn", 1, x -> x.turn(0, 1) ? 1 : 0);
        last("mirror", 1, x -> x.mirror(0, 1, 2) ? 1 : 0);
        last("volume", 512, x -> x.volume(1));
        last("has", 1, x -> x.has(1, 511) ? 1 : 0);
        last("same", 1, x -> x.same(2, 3) ? 1 : 0);
        last("inside", 1, x -> x.inside(2, 1) ? 1 : 0);
        last("cubes", 1, x -> x.cubes(1));
        last("order", 3, x -> x.order(1, 511));
        last("surface", 384, x -> x.surface(1));
        last("next", 511, x -> x.next(1, 511));
        last("kinds", 1, x -> x.kinds(1, 3));
    }

    /** The calls before it make solid 1 full, over and over; or once, and then are the same as the last. */
    private static void last(String name, long want, ToLongFunction<OctreeSolid> call) {
        OctreeSolid x = new OctreeSolid();
        for (int n = 1; n < CALLS; n++) {
            x.box(1, 0, 511, 1);
        }
        checks.due(name + " as the 512th call", want, call.applyAsLong(x));
        OctreeSolid y = new OctreeSolid();
        y.box(1, 0, 511, 1);
        for (int n = 2; n <= CALLS; n++) {
            checks.due(name + " again and again, as call " + n, want, call.applyAsLong(y));
        }
    }

    private static void refusedCallsCountForNothingElse() {
        OctreeSolid x = new OctreeSolid();
        x.box(2, 7, 7, 1);
        for (int n = 2; n < CALLS; n++) {
            checks.due("box refused as call " + n, false, x.box(2, 0, 512, 1));
        }
        checks.due("next as the 512th call", 7, x.next(2, Integer.MIN_VALUE));
    }

    /** LANGUAGE.md's rule 7: no call may ever throw or fail to end, for any arguments in any state. */
    private static void laterCallsEnd() {
        OctreeSolid x = new OctreeSolid();
        for (int a : NUMBERS) {
            for (int b : NUMBERS) {
                for (int c : NUMBERS) {
                    for (int d : NUMBERS) {
                        callAll(x, a, b, c, d);
                    }
                }
            }
        }
    }

    private static void callAll(OctreeSolid x, int a, int b, int c, int d) {
        x.box(a, b, c, d);
        x.combine(a, b, c, d);
        x.turn(a, b);
        x.mirror(a, b, c);
        x.volume(a);
        x.has(a, b);
        x.same(a, b);
        x.inside(a, b);
        x.cubes(a);
        x.order(a, b);
        x.surface(a);
        x.next(a, b);
        x.kinds(a, b);
    }
}
