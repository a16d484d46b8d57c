import java.util.function.Consumer;
import java.util.function.IntPredicate;

/** Cells, sets of cells and stories (calls on a new object) that several tests use. */
final class Shapes {
    /** The eight corners of the block. */
    static final int[] CORNERS = {0, 7, 56, 63, 448, 455, 504, 511};

    private Shapes() {
    }

    static int cell(int x, int y, int z) {
        return x + 8 * y + 64 * z;
    }

    static boolean[] cells(IntPredicate wanted) {
        boolean[] found = new boolean[512];
        for (int c = 0; c < 512; c++) {
            found[c] = wanted.test(c);
        }
        return found;
    }

    /** Whether cell c has its coordinates in the ranges given. */
    static boolean lies(int c, int x0, int x1, int y0, int y1, int z0, int z1) {
        int x = c % 8;
        int y = c / 8 % 8;
        int z = c / 64;
        return x0 <= x && x <= x1 && y0 <= y && y <= y1 && z0 <= z && z <= z1;
    }

    static boolean inFirst(int c) {
        return lies(c, 0, 3, 0, 4, 0, 5);
    }

    static boolean inSecond(int c) {
        return lies(c, 2, 7, 1, 6, 3, 3);
    }

    /** Solid 0 is inFirst, 1 is inSecond, 2 is full, 3 is the cell 1, 2, 4. */
    static void fill(OctreeSolid x) {
        x.box(0, cell(0, 0, 0), cell(3, 4, 5), 1);
        x.box(1, cell(2, 1, 3), cell(7, 6, 3), 1);
        x.box(2, 0, 511, 1);
        x.box(3, cell(1, 2, 4), cell(1, 2, 4), 1);
    }

    static void allFull(OctreeSolid x) {
        for (int r = 0; r < 4; r++) {
            x.box(r, 0, 511, 1);
        }
    }

    /** Each solid but r is full. */
    static Consumer<OctreeSolid> onlyEmpty(int r) {
        return x -> {
            allFull(x);
            x.box(r, 0, 511, 0);
        };
    }

    /** Solid 0 has every second cell, no two of them neighbours; the others have plates. */
    static void checkered(OctreeSolid x) {
        for (int v = 1; v < 8; v += 2) {
            x.box(1, cell(v, 0, 0), cell(v, 7, 7), 1);
            x.box(2, cell(0, v, 0), cell(7, v, 7), 1);
            x.box(3, cell(0, 0, v), cell(7, 7, v), 1);
        }
        x.combine(0, 3, 1, 2);
        x.combine(0, 3, 0, 3);
    }

    /** In solid 0 each cube of order 1 bears its own number, told by its first six cells. */
    static void allKindsDiffer(OctreeSolid x) {
        for (int n = 0; n < 64; n++) {
            int corner = cell(2 * (n % 4), 2 * (n / 4 % 4), 2 * (n / 16));
            for (int bit = 0; bit < 6; bit++) {
                if ((n >> bit & 1) == 1) {
                    int c = corner + cell(bit % 2, bit / 2 % 2, bit / 4);
                    x.box(0, c, c, 1);
                }
            }
        }
    }

    /** What combine makes of a cell that is in a and in b, or not. */
    static boolean combined(int op, boolean a, boolean b) {
        return switch (op) {
            case 0 -> a || b;
            case 1 -> a && b;
            case 2 -> a && !b;
            default -> a != b;
        };
    }
}
