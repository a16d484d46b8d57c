import java.util.function.Consumer;

/** One method a promise: ordinary inputs, the edges that the document names, and wrong inputs. */
public final class PromisesTest {
    private static final int[] NO_SOLID = {-1, 4, 512, Integer.MIN_VALUE, Integer.MAX_VALUE};
    private static final int[] NO_CELL = {-1, 512, 1000, Integer.MIN_VALUE, Integer.MAX_VALUE};
    private static final int[] NO_AXIS = {-1, 3, Integer.MIN_VALUE, Integer.MAX_VALUE};
    private static final int[] NO_BIT = {-1, 2, Integer.MIN_VALUE, Integer.MAX_VALUE};

    private static final Checks checks = new Checks();

    public static void main(String[] args) {
        promise1NewObject();
        promise2Box();
        promise2BoxRefuses();
        promise3Combine();
        promise3CombineRefuses();
        promise4Turn();
        promise5Mirror();
        promise6Volume();
        promise7Has();
        promise8Same();
        promise9Inside();
        promise10Cubes();
        promise11Order();
        promise12Surface();
        promise13Next();
        promise14Kinds();
        promise15RefusedCallsChangeNothing();
        promise15SolidItself();
        checks.finish();
    }

    private static void promise1NewObject() {
        for (int r = 0; r < 4; r++) {
            checks.solid("new object", new boolean[512], x -> { }, r);
            OctreeSolid x = new OctreeSolid();
            checks.due("volume when new", 0, x.volume(r));
            checks.due("next when new", -1, x.next(r, 0));
        }
        OctreeSolid x = new OctreeSolid();
        Shapes.fill(x);
        checks.due("a second object is empty", 0, new OctreeSolid().volume(2));
    }

    private static void promise2Box() {
        for (int r = 0; r < 4; r++) {
            final int s = r;
            checks.solid("box", Shapes.cells(c -> Shapes.lies(c, 1, 4, 2, 3, 5, 7)),
                x -> x.box(s, Shapes.cell(1, 2, 5), Shapes.cell(4, 3, 7), 1), r);
            checks.solid("box of another solid", new boolean[512],
                x -> x.box(s, 0, 511, 1), (r + 1) % 4);
        }
        for (int swap = 0; swap < 8; swap++) {
            int c = Shapes.cell((swap & 1) == 0 ? 1 : 4, (swap & 2) == 0 ? 2 : 3, (swap & 4) == 0 ? 5 : 7);
            int d = Shapes.cell((swap & 1) == 0 ? 4 : 1, (swap & 2) == 0 ? 3 : 2, (swap & 4) == 0 ? 7 : 5);
            checks.solid("box by corners " + swap, Shapes.cells(e -> Shapes.lies(e, 1, 4, 2, 3, 5, 7)),
                x -> x.box(0, c, d, 1), 0);
        }
        checks.solid("box of cell 0", Shapes.cells(c -> c == 0), x -> x.box(0, 0, 0, 1), 0);
        checks.solid("box of cell 511", Shapes.cells(c -> c == 511), x -> x.box(0, 511, 511, 1), 0);
        checks.solid("box of all", Shapes.cells(c -> true), x -> x.box(0, 7, 504, 1), 0);
        checks.solid("box taken out", Shapes.cells(c -> Shapes.inFirst(c) && !Shapes.inSecond(c)), x -> {
            Shapes.fill(x);
            x.box(0, Shapes.cell(7, 1, 3), Shapes.cell(2, 6, 3), 0);
        }, 0);
        checks.solid("box put over another", Shapes.cells(c -> Shapes.inFirst(c) || Shapes.inSecond(c)), x -> {
            Shapes.fill(x);
            x.box(0, Shapes.cell(7, 1, 3), Shapes.cell(2, 6, 3), 1);
        }, 0);
        OctreeSolid x = new OctreeSolid();
        checks.due("box 1", true, x.box(3, 511, 0, 1));
        checks.due("box 1 again", true, x.box(3, 0, 511, 1));
        checks.due("box 0", true, x.box(3, 0, 511, 0));
        checks.due("box 0 again", true, x.box(3, 0, 511, 0));
    }

    private static void promise2BoxRefuses() {
        for (int what = 0; what < 2; what++) {
            final int w = what;
            for (int r : NO_SOLID) {
                checks.refused("box of solid " + r, Shapes::fill, x -> x.box(r, 0, 511, w));
            }
            for (int c : NO_CELL) {
                checks.refused("box from " + c, Shapes::fill, x -> x.box(0, c, 7, w));
                checks.refused("box to " + c, Shapes::fill, x -> x.box(0, 7, c, w));
            }
        }
        for (int w : NO_BIT) {
            checks.refused("box with " + w, Shapes::fill, x -> x.box(0, 0, 511, w));
        }
    }

    private static void promise3Combine() {
        for (int op = 0; op < 4; op++) {
            final int o = op;
            for (int r = 0; r < 4; r++) {
                final int s = r;
                Consumer<OctreeSolid> ab = x -> {
                    Shapes.fill(x);
                    checks.due("combine", true, x.combine(s, o, 0, 1));
                };
                checks.solid("combine op " + op,
                    Shapes.cells(c -> Shapes.combined(o, Shapes.inFirst(c), Shapes.inSecond(c))), ab, r);
                Consumer<OctreeSolid> ba = x -> {
                    Shapes.fill(x);
                    checks.due("combine", true, x.combine(s, o, 1, 0));
                };
                checks.solid("combine op " + op,
                    Shapes.cells(c -> Shapes.combined(o, Shapes.inSecond(c), Shapes.inFirst(c))), ba, r);
            }
            checks.solid("combine leaves a", Shapes.cells(Shapes::inFirst), x -> {
                Shapes.fill(x);
                x.combine(2, o, 0, 1);
            }, 0);
            checks.solid("combine leaves b", Shapes.cells(Shapes::inSecond), x -> {
                Shapes.fill(x);
                x.combine(2, o, 0, 1);
            }, 1);
        }
    }

    private static void promise3CombineRefuses() {
        for (int r : NO_SOLID) {
            checks.refused("combine into " + r, Shapes::fill, x -> x.combine(r, 0, 0, 1));
            checks.refused("combine with a " + r, Shapes::fill, x -> x.combine(0, 3, r, 1));
            checks.refused("combine with b " + r, Shapes::fill, x -> x.combine(0, 3, 1, r));
            checks.refused("combine with op " + r, Shapes::fill, x -> x.combine(3, r, 0, 1));
        }
    }

    private static void promise4Turn() {
        for (int r = 0; r < 4; r++) {
            final int s = r;
            checks.solid("turn", Shapes.cells(c -> !Shapes.inFirst(c)), x -> {
                Shapes.fill(x);
                checks.due("turn", true, x.turn(s, 0));
            }, r);
        }
        checks.solid("turn of the full solid", new boolean[512], x -> {
            Shapes.fill(x);
            x.turn(0, 2);
        }, 0);
        checks.solid("turn of the empty solid", Shapes.cells(c -> true), x -> x.turn(3, 1), 3);
        checks.solid("turn leaves a", Shapes.cells(Shapes::inFirst), x -> {
            Shapes.fill(x);
            x.turn(1, 0);
        }, 0);
    }

    private static boolean mirroredFirst(int c, int axis) {
        return switch (axis) {
            case 0 -> Shapes.lies(c, 4, 7, 0, 4, 0, 5);
            case 1 -> Shapes.lies(c, 0, 3, 3, 7, 0, 5);
            default -> Shapes.lies(c, 0, 3, 0, 4, 2, 7);
        };
    }

    private static void promise5Mirror() {
        for (int axis = 0; axis < 3; axis++) {
            final int i = axis;
            for (int r = 0; r < 4; r++) {
                final int s = r;
                checks.solid("mirror along " + axis, Shapes.cells(c -> mirroredFirst(c, i)), x -> {
                    Shapes.fill(x);
                    checks.due("mirror", true, x.mirror(s, 0, i));
                }, r);
            }
            checks.solid("mirror leaves a", Shapes.cells(Shapes::inFirst), x -> {
                Shapes.fill(x);
                x.mirror(2, 0, i);
            }, 0);
            checks.solid("mirror twice", Shapes.cells(Shapes::inFirst), x -> {
                Shapes.fill(x);
                x.mirror(2, 0, i);
                x.mirror(3, 2, i);
            }, 3);
        }
    }

    private static void promise6Volume() {
        OctreeSolid x = new OctreeSolid();
        Shapes.fill(x);
        checks.due("volume(0)", 4 * 5 * 6, x.volume(0));
        checks.due("volume(1)", 6 * 6, x.volume(1));
        checks.due("volume(2)", 512, x.volume(2));
        checks.due("volume(3)", 1, x.volume(3));
        for (int r : NO_SOLID) {
            checks.due("volume(" + r + ")", -1, x.volume(r));
        }
    }

    private static void promise7Has() {
        OctreeSolid x = new OctreeSolid();
        Shapes.fill(x);
        checks.due("has a cell", true, x.has(3, Shapes.cell(1, 2, 4)));
        checks.due("has not a cell", false, x.has(3, Shapes.cell(2, 1, 4)));
        checks.due("has cell 0", true, x.has(2, 0));
        checks.due("has cell 511", true, x.has(2, 511));
        for (int r : NO_SOLID) {
            checks.due("has(" + r + ", 0)", false, x.has(r, 0));
        }
        x.box(0, 0, 511, 1);
        x.box(1, 0, 511, 1);
        x.box(3, 0, 511, 1);
        for (int c : NO_CELL) {
            for (int r = 0; r < 4; r++) {
                checks.due("has(" + r + ", " + c + ")", false, x.has(r, c));
            }
        }
    }

    private static void promise8Same() {
        OctreeSolid x = new OctreeSolid();
        checks.due("same when empty", true, x.same(0, 3));
        Shapes.fill(x);
        checks.due("same as itself", true, x.same(1, 1));
        checks.due("not the same", false, x.same(0, 1));
        x.combine(3, 0, 0, 0);
        checks.due("same as a copy", true, x.same(0, 3));
        for (int c : new int[] {0, Shapes.cell(3, 3, 3), 511}) {
            boolean was = x.has(3, c);
            x.box(3, c, c, was ? 0 : 1);
            checks.due("same but for " + c, false, x.same(0, 3));
            checks.due("same but for " + c, false, x.same(3, 0));
            x.box(3, c, c, was ? 1 : 0);
            checks.due("same again", true, x.same(3, 0));
        }
        // As many cells, but not the same ones.
        x.mirror(3, 0, 0);
        checks.due("same as mirrored", false, x.same(0, 3));
        for (int r : NO_SOLID) {
            checks.due("same(" + r + ", 0)", false, x.same(r, 0));
            checks.due("same(0, " + r + ")", false, x.same(0, r));
            checks.due("same(" + r + ", " + r + ")", false, x.same(r, r));
        }
    }

    private static void promise9Inside() {
        OctreeSolid x = new OctreeSolid();
        checks.due("empty inside empty", true, x.inside(0, 1));
        x.box(0, 511, 511, 1);
        checks.due("empty inside a cell", true, x.inside(1, 0));
        checks.due("a cell inside empty", false, x.inside(0, 1));
        x.box(0, 511, 511, 0);
        Shapes.fill(x);
        checks.due("inside the full one", true, x.inside(1, 2));
        checks.due("the full one inside", false, x.inside(2, 1));
        checks.due("inside itself", true, x.inside(0, 0));
        checks.due("overlapping", false, x.inside(1, 0));
        checks.due("overlapping", false, x.inside(0, 1));
        checks.due("a cell inside", true, x.inside(3, 0));
        checks.due("a cell outside", false, x.inside(3, 1));
        x.box(2, 0, 0, 0);
        checks.due("all but cell 0", false, x.inside(0, 2));
        for (int r : NO_SOLID) {
            checks.due("inside(" + r + ", 2)", false, x.inside(r, 2));
            checks.due("inside(0, " + r + ")", false, x.inside(0, r));
            checks.due("inside(" + r + ", " + r + ")", false, x.inside(r, r));
        }
    }

    private static void promise10Cubes() {
        OctreeSolid x = new OctreeSolid();
        checks.due("cubes when empty", 1, x.cubes(0));
        x.box(0, 0, 511, 1);
        checks.due("cubes when full", 1, x.cubes(0));
        x.box(1, Shapes.cell(4, 4, 4), 511, 1);
        checks.due("cubes of an eighth", 8, x.cubes(1));
        x.box(2, Shapes.cell(2, 4, 6), Shapes.cell(3, 5, 7), 1);
        checks.due("cubes of a cube of order 1", 7 + 8, x.cubes(2));
        for (int c : new int[] {0, Shapes.cell(3, 4, 5), 511}) {
            x.box(3, 0, 511, 0);
            x.box(3, c, c, 1);
            checks.due("cubes of cell " + c, 7 + 7 + 8, x.cubes(3));
            x.turn(3, 3);
            checks.due("cubes without cell " + c, 7 + 7 + 8, x.cubes(3));
        }
        // Of side 4, but not at a multiple of 4: cut into cubes of order 1.
        x.box(3, 0, 511, 0);
        x.box(3, Shapes.cell(2, 2, 2), Shapes.cell(5, 5, 5), 1);
        checks.due("cubes of a shifted cube", 64, x.cubes(3));
        for (int r : NO_SOLID) {
            checks.due("cubes(" + r + ")", -1, x.cubes(r));
        }
    }

    private static void promise11Order() {
        OctreeSolid x = new OctreeSolid();
        checks.due("order when empty", 3, x.order(0, 0));
        x.box(1, 0, 511, 1);
        checks.due("order when full", 3, x.order(1, 511));
        int c = Shapes.cell(3, 4, 5);
        x.box(2, c, c, 1);
        checks.due("order of the cell", 0, x.order(2, c));
        checks.due("order beside it, in its cube", 0, x.order(2, Shapes.cell(2, 5, 4)));
        checks.due("order beside it, outside its cube", 1, x.order(2, Shapes.cell(3, 6, 5)));
        checks.due("order in its cube of order 2", 1, x.order(2, Shapes.cell(0, 7, 7)));
        checks.due("order outside of that", 2, x.order(2, Shapes.cell(4, 4, 5)));
        checks.due("order outside of that", 2, x.order(2, Shapes.cell(3, 3, 5)));
        checks.due("order outside of that", 2, x.order(2, Shapes.cell(3, 4, 3)));
        checks.due("order of cell 0", 2, x.order(2, 0));
        checks.due("order of cell 511", 2, x.order(2, 511));
        for (int r : NO_SOLID) {
            checks.due("order(" + r + ", 0)", -1, x.order(r, 0));
        }
        for (int d : NO_CELL) {
            checks.due("order(1, " + d + ")", -1, x.order(1, d));
        }
    }

    private static void promise12Surface() {
        OctreeSolid x = new OctreeSolid();
        checks.due("surface when empty", 0, x.surface(0));
        Shapes.fill(x);
        checks.due("surface of a box at the corner", 2 * (4 * 5 + 5 * 6 + 4 * 6), x.surface(0));
        checks.due("surface of a plate", 2 * (6 * 6 + 6 + 6), x.surface(1));
        checks.due("surface when full", 6 * 64, x.surface(2));
        checks.due("surface of a cell", 6, x.surface(3));
        x.box(2, Shapes.cell(3, 3, 3), Shapes.cell(4, 4, 4), 0);
        checks.due("surface with a hollow", 6 * 64 + 6 * 4, x.surface(2));
        // Numbers that differ by 1 or 8, but no neighbours: the row or layer ends between them.
        x.box(3, 0, 511, 0);
        x.box(3, Shapes.cell(7, 0, 0), Shapes.cell(7, 0, 0), 1);
        x.box(3, Shapes.cell(0, 1, 0), Shapes.cell(0, 1, 0), 1);
        checks.due("surface over the end of a row", 12, x.surface(3));
        x.box(3, 0, 511, 0);
        x.box(3, Shapes.cell(3, 7, 0), Shapes.cell(3, 7, 0), 1);
        x.box(3, Shapes.cell(3, 0, 1), Shapes.cell(3, 0, 1), 1);
        checks.due("surface over the end of a layer", 12, x.surface(3));
        x.box(3, 0, 511, 0);
        x.box(3, 511, 511, 1);
        checks.due("surface of cell 511", 6, x.surface(3));
        surfaceOfLastAndFirst();
        for (int r : NO_SOLID) {
            checks.due("surface(" + r + ")", -1, x.surface(r));
        }
    }

    /** What one solid has at its end must not close a side of the next solid's beginning. */
    private static void surfaceOfLastAndFirst() {
        OctreeSolid x = new OctreeSolid();
        x.box(0, 448, 511, 1);
        x.box(1, 0, 63, 1);
        checks.due("surface of the last layer", 2 * 64 + 4 * 8, x.surface(0));
        checks.due("surface of the first layer", 2 * 64 + 4 * 8, x.surface(1));
    }

    private static void promise13Next() {
        OctreeSolid x = new OctreeSolid();
        x.box(1, 0, 511, 1);
        checks.due("next when empty", -1, x.next(0, 0));
        x.box(0, 5, 5, 1);
        x.box(0, 300, 300, 1);
        x.box(0, 511, 511, 1);
        checks.due("next from 0", 5, x.next(0, 0));
        checks.due("next from a cell in it", 5, x.next(0, 5));
        checks.due("next from 6", 300, x.next(0, 6));
        checks.due("next from 301", 511, x.next(0, 301));
        checks.due("next from 511", 511, x.next(0, 511));
        checks.due("next from 512", -1, x.next(0, 512));
        checks.due("next from the greatest int", -1, x.next(0, Integer.MAX_VALUE));
        checks.due("next from -1", 5, x.next(0, -1));
        checks.due("next from the least int", 5, x.next(0, Integer.MIN_VALUE));
        x.box(0, 511, 511, 0);
        checks.due("next behind the last cell", -1, x.next(0, 301));
        checks.due("next from -1 when full", 0, x.next(1, -1));
        for (int r : NO_SOLID) {
            checks.due("next(" + r + ", 0)", -1, x.next(r, 0));
        }
    }

    private static void promise14Kinds() {
        OctreeSolid x = new OctreeSolid();
        x.box(1, 0, 511, 1);
        for (int k = 0; k < 4; k++) {
            checks.due("kinds when empty", 1, x.kinds(0, k));
            checks.due("kinds when full", 1, x.kinds(1, k));
        }
        x.box(2, Shapes.cell(3, 4, 5), Shapes.cell(3, 4, 5), 1);
        checks.due("kinds of a cell, 0", 2, x.kinds(2, 0));
        checks.due("kinds of a cell, 1", 2, x.kinds(2, 1));
        checks.due("kinds of a cell, 2", 2, x.kinds(2, 2));
        checks.due("kinds of a cell, 3", 1, x.kinds(2, 3));
        // At the same place in its cubes of order 1, at another in those of order 2.
        x.box(2, Shapes.cell(5, 0, 1), Shapes.cell(5, 0, 1), 1);
        checks.due("kinds of two cells, 1", 2, x.kinds(2, 1));
        checks.due("kinds of two cells, 2", 3, x.kinds(2, 2));
        for (int r : NO_SOLID) {
            checks.due("kinds(" + r + ", 0)", -1, x.kinds(r, 0));
            checks.due("kinds(1, " + r + ")", -1, x.kinds(1, r));
        }
    }

    private static void promise15RefusedCallsChangeNothing() {
        for (int r : NO_SOLID) {
            checks.refused("turn into " + r, Shapes::fill, x -> x.turn(r, 0));
            checks.refused("turn of " + r, Shapes::fill, x -> x.turn(0, r));
            checks.refused("turn of both " + r, Shapes::fill, x -> x.turn(r, r));
            checks.refused("mirror into " + r, Shapes::fill, x -> x.mirror(r, 0, 0));
            checks.refused("mirror of " + r, Shapes::fill, x -> x.mirror(0, r, 0));
        }
        for (int axis : NO_AXIS) {
            checks.refused("mirror along " + axis, Shapes::fill, x -> x.mirror(3, 0, axis));
            checks.refused("mirror of itself along " + axis, Shapes::fill, x -> x.mirror(0, 0, axis));
        }
    }

    private static void promise15SolidItself() {
        for (int op = 0; op < 4; op++) {
            final int o = op;
            boolean[] want = Shapes.cells(c -> Shapes.combined(o, Shapes.inFirst(c), Shapes.inFirst(c)));
            checks.solid("combine, r is a, b the same", want, x -> {
                Shapes.fill(x);
                x.combine(0, o, 0, 0);
            }, 0);
        }
        checks.solid("turn of itself", Shapes.cells(c -> !Shapes.inSecond(c)), x -> {
            Shapes.fill(x);
            x.turn(1, 1);
        }, 1);
        for (int axis = 0; axis < 3; axis++) {
            final int i = axis;
            checks.solid("mirror of itself", Shapes.cells(c -> mirroredFirst(c, i)), x -> {
                Shapes.fill(x);
                x.mirror(0, 0, i);
            }, 0);
        }
    }
}
