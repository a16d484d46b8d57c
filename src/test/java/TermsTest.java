import java.util.function.IntPredicate;

/** The words of the document's "Terms", at the ends of the ranges of their numbers. */
public final class TermsTest {
    private static final Checks checks = new Checks();

    public static void main(String[] args) {
        cellsHaveTheirNumbers();
        solidsAreApart();
        boxesHaveBothEnds();
        boxesBetweenCornersOfTheBlock();
        cubesStartAtMultiples();
        cubesOfOrder0AreEven();
        theCubeOfOrder3IsTheBlock();
        evenIsAllOrNone();
        checks.finish();
    }

    /** "A CELL has the coordinates x, y, z, 0 .. 7 each, and the number x + 8 * y + 64 * z." */
    private static void cellsHaveTheirNumbers() {
        for (int z = 0; z < 8; z++) {
            for (int y = 0; y < 8; y++) {
                for (int x = 0; x < 8; x++) {
                    oneCellHasItsNumber(x, y, z);
                }
            }
        }
    }

    /** The mirrored cell tells which coordinate has which part of the number. */
    private static void oneCellHasItsNumber(int x, int y, int z) {
        int c = x + 8 * y + 64 * z;
        OctreeSolid s = new OctreeSolid();
        s.box(0, c, c, 1);
        checks.due("volume of cell " + c, 1, s.volume(0));
        checks.due("has cell " + c, true, s.has(0, c));
        checks.due("next finds cell " + c, c, s.next(0, 0));
        s.mirror(1, 0, 0);
        checks.due("cell " + c + " along x", 7 - x + 8 * y + 64 * z, s.next(1, 0));
        s.mirror(1, 0, 1);
        checks.due("cell " + c + " along y", x + 8 * (7 - y) + 64 * z, s.next(1, 0));
        s.mirror(1, 0, 2);
        checks.due("cell " + c + " along z", x + 8 * y + 64 * (7 - z), s.next(1, 0));
    }

    /** "There are solids 0 .. 3": what is done to one, first or last cell, shows in no other. */
    private static void solidsAreApart() {
        for (int n = 0; n < 4; n++) {
            final int r = n;
            for (int other = 0; other < 4; other++) {
                boolean itself = other == r;
                checks.solid("full beside the empty", Shapes.cells(c -> !itself), Shapes.onlyEmpty(r), other);
                checks.solid("empty beside the full", Shapes.cells(c -> itself), x -> x.box(r, 0, 511, 1), other);
                for (int end : new int[] {0, 511}) {
                    checks.solid("cell " + end + " of solid " + r, Shapes.cells(c -> itself && c == end),
                        x -> x.box(r, end, end, 1), other);
                }
            }
        }
    }

    /** "from the lesser to the greater one of the two, both included", for each axis and each two ends */
    private static void boxesHaveBothEnds() {
        for (int p = 0; p < 8; p++) {
            for (int q = 0; q < 8; q++) {
                int lo = Math.min(p, q);
                int hi = Math.max(p, q);
                box("along x", Shapes.cell(p, 2, 7), Shapes.cell(q, 2, 7), c -> Shapes.lies(c, lo, hi, 2, 2, 7, 7));
                box("along y", Shapes.cell(0, p, 3), Shapes.cell(0, q, 3), c -> Shapes.lies(c, 0, 0, lo, hi, 3, 3));
                box("along z", Shapes.cell(7, 4, p), Shapes.cell(7, 4, q), c -> Shapes.lies(c, 7, 7, 4, 4, lo, hi));
                // The lesser one may come first in one coordinate and second in another.
                box("crossed", Shapes.cell(p, q, 6), Shapes.cell(q, p, 5), c -> Shapes.lies(c, lo, hi, lo, hi, 5, 6));
            }
        }
    }

    private static void boxesBetweenCornersOfTheBlock() {
        for (int c : Shapes.CORNERS) {
            for (int d : Shapes.CORNERS) {
                box("between corners", c, d, e -> between(c % 8, d % 8, e % 8)
                    && between(c / 8 % 8, d / 8 % 8, e / 8 % 8) && between(c / 64, d / 64, e / 64));
            }
        }
    }

    private static boolean between(int p, int q, int v) {
        return Math.min(p, q) <= v && v <= Math.max(p, q);
    }

    private static void box(String what, int c, int d, IntPredicate wanted) {
        String told = "box " + what + " from " + c + " to " + d;
        checks.solid(told + " put in", Shapes.cells(wanted), x -> x.box(1, c, d, 1), 1);
        checks.solid(told + " taken out", Shapes.cells(wanted.negate()), x -> {
            Shapes.allFull(x);
            x.box(1, c, d, 0);
        }, 1);
    }

    /** "a, b and c are multiples of s": a box of a cube's size elsewhere is none, on each axis. */
    private static void cubesStartAtMultiples() {
        for (int k = 1; k <= 2; k++) {
            int s = 1 << k;
            for (int start = 0; start <= 8 - s; start++) {
                int want = start == 0 ? k : Math.min(k, Integer.numberOfTrailingZeros(start));
                for (int axis = 0; axis < 3; axis++) {
                    int unit = 1 << 3 * axis;
                    int corner = start * unit;
                    OctreeSolid x = new OctreeSolid();
                    x.box(0, corner, corner + Shapes.cell(s - 1, s - 1, s - 1), 1);
                    String told = "of side " + s + " from " + start + " on axis " + axis;
                    checks.due("order at the start " + told, want, x.order(0, corner));
                    checks.due("order at the end " + told, want, x.order(0, corner + (s - 1) * unit));
                }
            }
        }
    }

    /** A cube of order 0 has one cell: all of it is in the solid, or none. */
    private static void cubesOfOrder0AreEven() {
        OctreeSolid x = new OctreeSolid();
        Shapes.checkered(x);
        for (int corner : Shapes.CORNERS) {
            checks.due("order of " + corner + ", all neighbours being otherwise", 0, x.order(0, corner));
        }
        checks.due("even cubes when all are of order 0", 512, x.cubes(0));
    }

    /** Of order 3 there is one cube alone, from 0, 0, 0 to 7, 7, 7. */
    private static void theCubeOfOrder3IsTheBlock() {
        for (int c : Shapes.CORNERS) {
            OctreeSolid x = new OctreeSolid();
            checks.due("order 3 of none, at " + c, 3, x.order(0, c));
            x.box(0, c, c, 1);
            checks.due("order at the far corner once " + c + " is in", 2, x.order(0, 511 - c));
            x.turn(0, 0);
            checks.due("order at the far corner when all but " + c + " are in", 2, x.order(0, 511 - c));
            x.box(0, c, c, 1);
            checks.due("order 3 of all, at " + c, 3, x.order(0, c));
        }
    }

    /** "EVEN ... when all its cells are in it, or none": one cell more or less, and it is not. */
    private static void evenIsAllOrNone() {
        for (int k = 1; k <= 3; k++) {
            int s = 1 << k;
            for (int start : new int[] {0, 8 - s}) {
                int first = Shapes.cell(start, start, start);
                int last = first + Shapes.cell(s - 1, s - 1, s - 1);
                oddCell(k, first, last, first);
                oddCell(k, first, last, last);
            }
        }
    }

    private static void oddCell(int k, int first, int last, int odd) {
        for (int what = 0; what < 2; what++) {
            OctreeSolid x = new OctreeSolid();
            // All around is otherwise, so that no larger cube is even.
            x.box(0, 0, 511, 1 - what);
            x.box(0, first, last, what);
            String told = "the cube from " + first + " to " + last + (what == 1 ? ", all in" : ", none in");
            checks.due("order in " + told, k, x.order(0, odd));
            x.box(0, odd, odd, 1 - what);
            checks.due("order of the odd cell in " + told, 0, x.order(0, odd));
            checks.due("order far from it in " + told, k - 1, x.order(0, first + last - odd));
        }
    }
}
