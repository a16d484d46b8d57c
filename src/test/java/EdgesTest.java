import java.util.function.Consumer;

/**
 * Empty and full solids, the first and the last cell, and the ends of rows, layers and the block,
 * promise by promise, with answers worked out by hand; LimitsTest has the numbers that are refused.
 */
public final class EdgesTest {
    private static final int LEAST = Integer.MIN_VALUE;
    private static final int GREATEST = Integer.MAX_VALUE;

    private static final boolean[] NONE = Shapes.cells(c -> false);
    private static final boolean[] ALL = Shapes.cells(c -> true);

    private static final Checks checks = new Checks();

    public static void main(String[] args) {
        promise1AllSolidsEmpty();
        promise1ObjectsAreApart();
        promise2IntoEmptyAndFull();
        promise2OutOfEmptyAndFull();
        promise3EmptyAndFull();
        promise4EmptyAndFull();
        promise5EmptyAndFull();
        promise5EachPlate();
        promise5Corners();
        promise6LeastAndGreatest();
        promise7FirstAndLastCell();
        promise8EmptyAndFull();
        promise8OneCellApart();
        promise9EmptyAndFull();
        promise9OneCellApart();
        promise10LeastAndGreatest();
        promise10LieInNoLarger();
        promise11EachOrder();
        promise12LeastAndGreatest();
        promise12OutsideTheBlock();
        promise12NoWrapAround();
        promise13EmptyAndFull();
        promise13FromAnyInt();
        promise14EmptyAndFull();
        promise14LeastAndGreatest();
        promise14SamePlaces();
        questionsChangeNothing();
        checks.finish();
    }

    /** "All solids empty." */
    private static void promise1AllSolidsEmpty() {
        for (int r = 0; r < 4; r++) {
            checks.solid("new object", NONE, x -> { }, r);
            OctreeSolid x = new OctreeSolid();
            checks.due("volume when new", 0, x.volume(r));
            checks.due("cubes when new", 1, x.cubes(r));
            checks.due("surface when new", 0, x.surface(r));
            checks.due("next when new", OctreeSolid.BAD, x.next(r, LEAST));
            for (int other = 0; other < 4; other++) {
                checks.due("same when new", true, x.same(r, other));
                checks.due("inside when new", true, x.inside(r, other));
                checks.due("kinds when new", 1, x.kinds(r, other));
            }
        }
    }

    private static void promise1ObjectsAreApart() {
        OctreeSolid first = new OctreeSolid();
        OctreeSolid second = new OctreeSolid();
        Shapes.allFull(first);
        OctreeSolid third = new OctreeSolid();
        for (int r = 0; r < 4; r++) {
            checks.due("volume of the filled object", 512, first.volume(r));
            checks.due("volume of the object made before", 0, second.volume(r));
            checks.due("volume of the object made after", 0, third.volume(r));
        }
    }

    /** "Puts the cells ... into solid r (what 1) ... and answers true", also when they are in it */
    private static void promise2IntoEmptyAndFull() {
        for (int n = 0; n < 4; n++) {
            final int r = n;
            for (int end : new int[] {0, 511}) {
                checks.solid("cell into the empty", Shapes.cells(c -> c == end), x -> putsIn(x, r, end, end), r);
                checks.solid("cell into the full", ALL, x -> {
                    Shapes.allFull(x);
                    putsIn(x, r, end, end);
                }, r);
            }
            checks.solid("all into the empty", ALL, x -> putsIn(x, r, 0, 511), r);
            checks.solid("all into the empty, from the end", ALL, x -> putsIn(x, r, 511, 0), r);
        }
    }

    private static void putsIn(OctreeSolid x, int r, int c, int d) {
        checks.due("box(" + r + ", " + c + ", " + d + ", 1)", true, x.box(r, c, d, 1));
    }

    /** "or takes them out of it (what 0), and answers true", also when they are not in it */
    private static void promise2OutOfEmptyAndFull() {
        for (int n = 0; n < 4; n++) {
            final int r = n;
            for (int end : new int[] {0, 511}) {
                checks.solid("cell out of the empty", NONE, x -> takesOut(x, r, end, end), r);
                checks.solid("cell out of the full", Shapes.cells(c -> c != end), x -> {
                    Shapes.allFull(x);
                    takesOut(x, r, end, end);
                }, r);
            }
            checks.solid("all out of the full", NONE, x -> {
                Shapes.allFull(x);
                takesOut(x, r, 0, 511);
            }, r);
            checks.solid("all out of the empty", NONE, x -> takesOut(x, r, 511, 0), r);
        }
    }

    private static void takesOut(OctreeSolid x, int r, int c, int d) {
        checks.due("box(" + r + ", " + c + ", " + d + ", 0)", true, x.box(r, c, d, 0));
    }

    /** "op 0 ... in a or in b, op 1 ... in both, op 2 ... in a and not in b, op 3 ... in exactly one" */
    private static void promise3EmptyAndFull() {
        // Rows: op; columns: a and b empty, b alone full, a alone full, both full.
        boolean[][] full = {
            {false, true, true, true},
            {false, false, false, true},
            {false, false, true, false},
            {false, true, true, false}};
        for (int op = 0; op < 4; op++) {
            for (int column = 0; column < 4; column++) {
                final int o = op;
                final int a = column / 2;
                final int b = column % 2;
                for (int before = 0; before < 2; before++) {
                    final int was = before;
                    checks.solid("op " + o + ", a " + a + ", b " + b + ", r before " + was,
                        full[op][column] ? ALL : NONE, x -> {
                            x.box(0, 0, 511, a);
                            x.box(1, 0, 511, b);
                            x.box(2, 0, 511, was);
                            checks.due("combine", true, x.combine(2, o, 0, 1));
                        }, 2);
                }
            }
        }
    }

    /** "Solid r becomes all cells that are not in a", whatever was in it */
    private static void promise4EmptyAndFull() {
        for (int n = 0; n < 4; n++) {
            final int r = n;
            for (int m = 0; m < 4; m++) {
                final int a = m;
                checks.solid("turn of the empty", ALL, x -> x.turn(r, a), r);
                checks.solid("turn of the full", NONE, x -> {
                    Shapes.allFull(x);
                    x.turn(r, a);
                }, r);
                for (int end : new int[] {0, 511}) {
                    checks.solid("turn of cell " + end, Shapes.cells(c -> c != end), x -> {
                        x.box(a, end, end, 1);
                        x.turn(r, a);
                    }, r);
                }
            }
        }
    }

    private static void promise5EmptyAndFull() {
        for (int axis = 0; axis < 3; axis++) {
            final int i = axis;
            checks.solid("mirror of the empty", NONE, x -> {
                x.box(3, 0, 511, 1);
                checks.due("mirror", true, x.mirror(3, 0, i));
            }, 3);
            checks.solid("mirror of the full", ALL, x -> {
                x.box(0, 0, 511, 1);
                checks.due("mirror", true, x.mirror(3, 0, i));
            }, 3);
        }
    }

    /** "the coordinate v becoming 7 - v", for each v */
    private static void promise5EachPlate() {
        for (int n = 0; n < 8; n++) {
            final int v = n;
            final int w = 7 - v;
            checks.solid("plate x = " + v, Shapes.cells(c -> Shapes.lies(c, w, w, 0, 7, 0, 7)), x -> {
                x.box(0, Shapes.cell(v, 0, 0), Shapes.cell(v, 7, 7), 1);
                x.mirror(1, 0, 0);
            }, 1);
            checks.solid("plate y = " + v, Shapes.cells(c -> Shapes.lies(c, 0, 7, w, w, 0, 7)), x -> {
                x.box(0, Shapes.cell(0, v, 0), Shapes.cell(7, v, 7), 1);
                x.mirror(1, 0, 1);
            }, 1);
            checks.solid("plate z = " + v, Shapes.cells(c -> Shapes.lies(c, 0, 7, 0, 7, w, w)), x -> {
                x.box(0, Shapes.cell(0, 0, v), Shapes.cell(7, 7, v), 1);
                x.mirror(1, 0, 2);
            }, 1);
        }
    }

    /** A corner goes to the one at the other end of its edge: the other two coordinates stay. */
    private static void promise5Corners() {
        int[] along = {7, 56, 448};
        for (int corner : Shapes.CORNERS) {
            for (int axis = 0; axis < 3; axis++) {
                final int i = axis;
                boolean atEnd = (corner & along[axis]) != 0;
                int want = atEnd ? corner - along[axis] : corner + along[axis];
                checks.solid("corner " + corner + " along " + axis, Shapes.cells(c -> c == want), x -> {
                    x.box(2, corner, corner, 1);
                    x.mirror(1, 2, i);
                }, 1);
            }
        }
    }

    /** "The number of cells": 0, 1, 511 and 512 */
    private static void promise6LeastAndGreatest() {
        for (int r = 0; r < 4; r++) {
            for (int end : new int[] {0, 511}) {
                OctreeSolid x = new OctreeSolid();
                checks.due("volume of the empty", 0, x.volume(r));
                x.box(r, end, end, 1);
                checks.due("volume of cell " + end, 1, x.volume(r));
                x.turn(r, r);
                checks.due("volume without cell " + end, 511, x.volume(r));
                x.box(r, end, end, 1);
                checks.due("volume of the full", 512, x.volume(r));
                checks.due("volume of another", 0, x.volume((r + 1) % 4));
            }
        }
    }

    /** The cells before the first and behind the last are in no solid, though the solids beside are full. */
    private static void promise7FirstAndLastCell() {
        for (int r = 0; r < 4; r++) {
            OctreeSolid full = new OctreeSolid();
            Shapes.allFull(full);
            OctreeSolid hollow = new OctreeSolid();
            Shapes.onlyEmpty(r).accept(hollow);
            for (int c : new int[] {0, 1, 510, 511}) {
                checks.due("full solid " + r + " has " + c, true, full.has(r, c));
                checks.due("empty solid " + r + " has " + c, false, hollow.has(r, c));
            }
            for (int c : new int[] {LEAST, -512, -1, 512, 1023, GREATEST}) {
                checks.due("full solid " + r + " has " + c, false, full.has(r, c));
                checks.due("empty solid " + r + " has " + c, false, hollow.has(r, c));
            }
        }
    }

    /** "Whether solids a and b are the same set" */
    private static void promise8EmptyAndFull() {
        OctreeSolid x = new OctreeSolid();
        x.box(1, 0, 511, 1);
        x.box(2, 0, 511, 1);
        for (int a = 0; a < 4; a++) {
            for (int b = 0; b < 4; b++) {
                boolean fullA = a == 1 || a == 2;
                boolean fullB = b == 1 || b == 2;
                checks.due("same(" + a + ", " + b + ")", fullA == fullB, x.same(a, b));
            }
        }
    }

    private static void promise8OneCellApart() {
        for (int c = 0; c < 512; c++) {
            OctreeSolid x = new OctreeSolid();
            x.box(0, c, c, 1);
            checks.due("empty same as cell " + c, false, x.same(1, 0));
            checks.due("cell " + c + " same as empty", false, x.same(0, 1));
            x.turn(1, 1);
            x.turn(0, 0);
            checks.due("full same as all but cell " + c, false, x.same(1, 0));
            checks.due("all but cell " + c + " same as full", false, x.same(0, 1));
            x.box(2, 511 - c, 511 - c, 1);
            x.turn(2, 2);
            checks.due("all but " + c + " same as all but its opposite", false, x.same(0, 2));
        }
    }

    /** "Whether all cells of a are in b": the empty one has none, so they always are */
    private static void promise9EmptyAndFull() {
        OctreeSolid x = new OctreeSolid();
        x.box(1, 0, 511, 1);
        x.box(2, 0, 511, 1);
        for (int a = 0; a < 4; a++) {
            for (int b = 0; b < 4; b++) {
                boolean fullA = a == 1 || a == 2;
                boolean fullB = b == 1 || b == 2;
                checks.due("inside(" + a + ", " + b + ")", !fullA || fullB, x.inside(a, b));
            }
        }
    }

    private static void promise9OneCellApart() {
        for (int c = 0; c < 512; c++) {
            OctreeSolid x = new OctreeSolid();
            x.box(0, c, c, 1);
            checks.due("empty inside cell " + c, true, x.inside(1, 0));
            checks.due("cell " + c + " inside empty", false, x.inside(0, 1));
            checks.due("cell " + c + " inside itself", true, x.inside(0, 0));
            x.turn(1, 0);
            checks.due("cell " + c + " inside the others", false, x.inside(0, 1));
            checks.due("the others inside cell " + c, false, x.inside(1, 0));
            x.turn(2, 2);
            checks.due("all but cell " + c + " inside full", true, x.inside(1, 2));
            checks.due("full inside all but cell " + c, false, x.inside(2, 1));
        }
    }

    private static void promise10LeastAndGreatest() {
        for (int r = 0; r < 4; r++) {
            OctreeSolid x = new OctreeSolid();
            Shapes.onlyEmpty(r).accept(x);
            checks.due("cubes of the empty", 1, x.cubes(r));
            checks.due("cubes of the full", 1, x.cubes((r + 1) % 4));
        }
        for (int corner : Shapes.CORNERS) {
            OctreeSolid x = new OctreeSolid();
            x.box(1, corner, corner, 1);
            checks.due("cubes of cell " + corner, 7 + 7 + 8, x.cubes(1));
            x.turn(1, 1);
            checks.due("cubes without cell " + corner, 7 + 7 + 8, x.cubes(1));
        }
        OctreeSolid x = new OctreeSolid();
        Shapes.checkered(x);
        checks.due("cubes of every second cell", 512, x.cubes(0));
        // Plates one cell thick: each cube of order 1 is cut through.
        for (int r = 1; r < 4; r++) {
            checks.due("cubes of plates", 512, x.cubes(r));
        }
    }

    /** "and lie in no larger cube that is even for it": cubes of each order beside each other */
    private static void promise10LieInNoLarger() {
        OctreeSolid x = new OctreeSolid();
        x.box(0, Shapes.cell(0, 0, 0), Shapes.cell(3, 7, 7), 1);
        checks.due("cubes of a half", 8, x.cubes(0));
        x.box(0, Shapes.cell(0, 0, 0), Shapes.cell(4, 7, 7), 1);
        // Where x is 4 .. 7: of 32 cubes of order 1 the 16 at x = 4, 5 are cut into 8 each.
        checks.due("cubes of a half and a plate", 4 + 16 + 16 * 8, x.cubes(0));
        x.box(0, Shapes.cell(0, 0, 0), Shapes.cell(5, 7, 7), 1);
        checks.due("cubes of a half and two plates", 4 + 32, x.cubes(0));
    }

    /** "The order of the largest cube": 3, 2, 1 and 0, in the solid and out of it */
    private static void promise11EachOrder() {
        for (int corner : Shapes.CORNERS) {
            for (int what = 0; what < 2; what++) {
                OctreeSolid x = new OctreeSolid();
                x.box(0, 0, 511, 1 - what);
                String told = "cell " + corner + (what == 1 ? " in" : " out");
                checks.due("order before " + told, 3, x.order(0, corner));
                x.box(0, corner, corner, what);
                checks.due("order of " + told, 0, x.order(0, corner));
                checks.due("order 1 from " + told, 0, x.order(0, towardsMiddle(corner, 1)));
                checks.due("order 2 from " + told, 1, x.order(0, towardsMiddle(corner, 2)));
                checks.due("order 3 from " + told, 1, x.order(0, towardsMiddle(corner, 3)));
                checks.due("order 4 from " + told, 2, x.order(0, towardsMiddle(corner, 4)));
                checks.due("order 7 from " + told, 2, x.order(0, towardsMiddle(corner, 7)));
            }
        }
    }

    /** The cell so many steps away from a corner of the block on each of the three axes. */
    private static int towardsMiddle(int corner, int steps) {
        int x = corner % 8 == 0 ? steps : 7 - steps;
        int y = corner / 8 % 8 == 0 ? steps : 7 - steps;
        int z = corner / 64 == 0 ? steps : 7 - steps;
        return Shapes.cell(x, y, z);
    }

    private static void promise12LeastAndGreatest() {
        for (int r = 0; r < 4; r++) {
            OctreeSolid x = new OctreeSolid();
            Shapes.onlyEmpty(r).accept(x);
            checks.due("surface of the empty", 0, x.surface(r));
            checks.due("surface of the full", 6 * 64, x.surface((r + 1) % 4));
        }
        OctreeSolid x = new OctreeSolid();
        Shapes.checkered(x);
        checks.due("surface of every second cell", 256 * 6, x.surface(0));
        x.turn(0, 0);
        checks.due("surface of the other cells", 256 * 6, x.surface(0));
    }

    /** "that is not in it or outside the block": a side at the end of the block is open */
    private static void promise12OutsideTheBlock() {
        for (int n = 0; n < 4; n++) {
            final int r = n;
            for (int c = 0; c < 512; c++) {
                OctreeSolid x = new OctreeSolid();
                Shapes.onlyEmpty(r).accept(x);
                x.box(r, c, c, 1);
                checks.due("surface of cell " + c + " between full solids", 6, x.surface(r));
                // A hole opens the sides of its neighbours; where it is at an end, one of its own is lost.
                x.turn(r, r);
                checks.due("surface without cell " + c, 6 * 64 + 6 - 2 * endsAt(c), x.surface(r));
            }
        }
    }

    /** On how many axes the cell is the first or the last. */
    private static int endsAt(int c) {
        int count = 0;
        for (int v : new int[] {c % 8, c / 8 % 8, c / 64}) {
            count += v == 0 || v == 7 ? 1 : 0;
        }
        return count;
    }

    /** "a neighbour (differing by 1 in one coordinate)": the end of a row is no neighbour of the next row */
    private static void promise12NoWrapAround() {
        surfaceOfTwo("over the end of a row", Shapes.cell(7, 3, 4), Shapes.cell(0, 4, 4), 12);
        surfaceOfTwo("over the end of a layer", Shapes.cell(5, 7, 2), Shapes.cell(5, 0, 3), 12);
        surfaceOfTwo("over the end of row and layer", Shapes.cell(7, 7, 2), Shapes.cell(0, 0, 3), 12);
        surfaceOfTwo("at both ends along x", Shapes.cell(0, 3, 4), Shapes.cell(7, 3, 4), 12);
        surfaceOfTwo("at both ends along y", Shapes.cell(3, 0, 4), Shapes.cell(3, 7, 4), 12);
        surfaceOfTwo("at both ends along z", Shapes.cell(3, 4, 0), Shapes.cell(3, 4, 7), 12);
        surfaceOfTwo("touching at an edge", Shapes.cell(3, 4, 0), Shapes.cell(4, 5, 0), 12);
        surfaceOfTwo("touching at a corner", Shapes.cell(6, 6, 6), Shapes.cell(7, 7, 7), 12);
        surfaceOfTwo("with one between", Shapes.cell(3, 4, 0), Shapes.cell(5, 4, 0), 12);
        surfaceOfTwo("beside each other along x", Shapes.cell(6, 0, 7), Shapes.cell(7, 0, 7), 10);
        surfaceOfTwo("beside each other along y", Shapes.cell(0, 1, 7), Shapes.cell(0, 0, 7), 10);
        surfaceOfTwo("beside each other along z", Shapes.cell(7, 7, 6), Shapes.cell(7, 7, 7), 10);
    }

    private static void surfaceOfTwo(String what, int c, int d, int want) {
        OctreeSolid x = new OctreeSolid();
        x.box(2, c, c, 1);
        x.box(2, d, d, 1);
        checks.due("surface of two cells " + what, want, x.surface(2));
    }

    /** "BAD when there is none", though the solids beside are full */
    private static void promise13EmptyAndFull() {
        for (int r = 0; r < 4; r++) {
            OctreeSolid x = new OctreeSolid();
            Shapes.onlyEmpty(r).accept(x);
            for (int c : new int[] {LEAST, -513, -512, -1, 0, 511, 512, 1024, GREATEST}) {
                checks.due("next(" + r + ", " + c + ") of the empty", OctreeSolid.BAD, x.next(r, c));
            }
        }
        OctreeSolid x = new OctreeSolid();
        x.box(1, 0, 511, 1);
        for (int c = 0; c < 508; c++) {
            checks.due("next from " + c + " in the full", c, x.next(1, c));
        }
    }

    /** "The least cell number, from c on"; "(c may be any int.)" */
    private static void promise13FromAnyInt() {
        for (int r = 0; r < 4; r++) {
            OctreeSolid x = new OctreeSolid();
            x.box(r, 0, 511, 1);
            checks.due("next from the least int in the full", 0, x.next(r, LEAST));
            checks.due("next from -1 in the full", 0, x.next(r, -1));
            checks.due("next from 510 in the full", 510, x.next(r, 510));
            checks.due("next from 511 in the full", 511, x.next(r, 511));
            checks.due("next from 512 in the full", OctreeSolid.BAD, x.next(r, 512));
            checks.due("next from the greatest int in the full", OctreeSolid.BAD, x.next(r, GREATEST));
        }
        for (int only = 0; only < 512; only++) {
            OctreeSolid x = new OctreeSolid();
            x.box(3, only, only, 1);
            checks.due("next from the least int", only, x.next(3, LEAST));
            checks.due("next from -1", only, x.next(3, -1));
            checks.due("next from 0", only, x.next(3, 0));
            checks.due("next from just before", only, x.next(3, only - 1));
            checks.due("next from the cell itself", only, x.next(3, only));
            checks.due("next from just behind", OctreeSolid.BAD, x.next(3, only + 1));
            checks.due("next from the greatest int", OctreeSolid.BAD, x.next(3, GREATEST));
        }
    }

    private static void promise14EmptyAndFull() {
        for (int r = 0; r < 4; r++) {
            OctreeSolid x = new OctreeSolid();
            Shapes.onlyEmpty(r).accept(x);
            for (int k = 0; k < 4; k++) {
                checks.due("kinds of order " + k + " of the empty", 1, x.kinds(r, k));
                checks.due("kinds of order " + k + " of the full", 1, x.kinds((r + 1) % 4, k));
            }
        }
    }

    /** At most 2 kinds of order 0, 64 of order 1, 8 of order 2, 1 of order 3 */
    private static void promise14LeastAndGreatest() {
        OctreeSolid x = new OctreeSolid();
        Shapes.checkered(x);
        checks.due("kinds of every second cell, 0", 2, x.kinds(0, 0));
        checks.due("kinds of every second cell, 1", 1, x.kinds(0, 1));
        checks.due("kinds of every second cell, 2", 1, x.kinds(0, 2));
        checks.due("kinds of every second cell, 3", 1, x.kinds(0, 3));
        for (int end : new int[] {0, 511}) {
            OctreeSolid y = new OctreeSolid();
            y.box(0, end, end, 1);
            y.turn(1, 0);
            for (int r = 0; r < 2; r++) {
                checks.due("kinds with one odd cell, 0", 2, y.kinds(r, 0));
                checks.due("kinds with one odd cell, 1", 2, y.kinds(r, 1));
                checks.due("kinds with one odd cell, 2", 2, y.kinds(r, 2));
                checks.due("kinds with one odd cell, 3", 1, y.kinds(r, 3));
            }
        }
        OctreeSolid y = new OctreeSolid();
        Shapes.allKindsDiffer(y);
        checks.due("kinds when all differ, 0", 2, y.kinds(0, 0));
        checks.due("kinds when all differ, 1", 64, y.kinds(0, 1));
        checks.due("kinds when all differ, 2", 8, y.kinds(0, 2));
        checks.due("kinds when all differ, 3", 1, y.kinds(0, 3));
    }

    /** "cells at the same places in them": turned or mirrored is another kind; each place counts */
    private static void promise14SamePlaces() {
        for (int place = 0; place < 8; place++) {
            for (int other = 0; other < 8; other++) {
                OctreeSolid x = new OctreeSolid();
                int c = Shapes.cell(place % 2, place / 2 % 2, place / 4);
                int d = Shapes.cell(6 + other % 2, 6 + other / 2 % 2, 6 + other / 4);
                x.box(0, c, c, 1);
                x.box(0, d, d, 1);
                String told = "place " + place + " in the first and " + other + " in the last";
                checks.due("kinds of order 1, " + told, place == other ? 2 : 3, x.kinds(0, 1));
                // In cubes of order 2 these are always at different places: one is at 0 or 1, one at 2 or 3.
                checks.due("kinds of order 2, " + told, 3, x.kinds(0, 2));
            }
        }
    }

    private static void questionsChangeNothing() {
        Consumer<OctreeSolid> story = Shapes::fill;
        long[] before = State.after(story);
        long[] after = State.after(story.andThen(EdgesTest::askAll));
        checks.due("answers changed by questions", 0, State.differing(before, after));
    }

    private static void askAll(OctreeSolid x) {
        for (int r = 0; r < 4; r++) {
            x.volume(r);
            x.has(r, 511);
            x.same(r, 3 - r);
            x.inside(r, 3 - r);
            x.cubes(r);
            x.order(r, 0);
            x.surface(r);
            x.next(r, LEAST);
            x.kinds(r, 1);
            x.kinds(r, 2);
        }
    }
}
