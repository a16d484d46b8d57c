import java.util.function.Consumer;

/** "In combine, turn and mirror solid r may be a or b itself: what these were before the call counts." */
public final class ItselfTest {
    private static final Checks checks = new Checks();

    public static void main(String[] args) {
        combineOfAnyThree();
        turnOfAnyTwo();
        mirrorOfAnyTwo();
        checks.finish();
    }

    /** What fill makes of solid r. */
    private static boolean[] filled(int r) {
        return switch (r) {
            case 0 -> Shapes.cells(Shapes::inFirst);
            case 1 -> Shapes.cells(Shapes::inSecond);
            case 2 -> Shapes.cells(c -> true);
            default -> Shapes.cells(c -> c == Shapes.cell(1, 2, 4));
        };
    }

    private static void combineOfAnyThree() {
        for (int n = 0; n < 256; n++) {
            int r = n % 4;
            int a = n / 4 % 4;
            int b = n / 16 % 4;
            int op = n / 64;
            boolean[] inA = filled(a);
            boolean[] inB = filled(b);
            becomes("combine(" + r + ", " + op + ", " + a + ", " + b + ")", r,
                Shapes.cells(c -> Shapes.combined(op, inA[c], inB[c])),
                x -> checks.due("combine", true, x.combine(r, op, a, b)));
        }
    }

    private static void turnOfAnyTwo() {
        for (int n = 0; n < 16; n++) {
            int r = n % 4;
            int a = n / 4;
            boolean[] inA = filled(a);
            becomes("turn(" + r + ", " + a + ")", r, Shapes.cells(c -> !inA[c]),
                x -> checks.due("turn", true, x.turn(r, a)));
        }
    }

    private static void mirrorOfAnyTwo() {
        for (int n = 0; n < 48; n++) {
            int r = n % 4;
            int a = n / 4 % 4;
            int axis = n / 16;
            boolean[] inA = filled(a);
            becomes("mirror(" + r + ", " + a + ", " + axis + ")", r, Shapes.cells(c -> inA[mirrored(c, axis)]),
                x -> checks.due("mirror", true, x.mirror(r, a, axis)));
        }
    }

    private static int mirrored(int c, int axis) {
        int[] v = {c % 8, c / 8 % 8, c / 64};
        v[axis] = 7 - v[axis];
        return Shapes.cell(v[0], v[1], v[2]);
    }

    /** After the call solid r is what is wanted, and each other one is what it was. */
    private static void becomes(String what, int r, boolean[] wanted, Consumer<OctreeSolid> call) {
        Consumer<OctreeSolid> story = ((Consumer<OctreeSolid>) Shapes::fill).andThen(call);
        for (int s = 0; s < 4; s++) {
            checks.solid(what, s == r ? wanted : filled(s), story, s);
        }
    }
}
