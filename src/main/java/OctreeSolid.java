public final class OctreeSolid {
    public static final int BAD = -1;

    private static final int SOLIDS = 4;
    private static final int CELLS = 512;
    private static final int ALL_CELLS = SOLIDS * CELLS;
    private static final int OPS = 4;
    private static final int AXES = 3;
    private static final int TOP_ORDER = 3;

    // A coordinate takes three bits of a cell's number, the one of axis i from bit 3 * i on.
    private static final int AXIS_BITS = 3;
    private static final int LAST = 7;

    // 1 in each of the three coordinates: times n it is the cell n, n, n.
    private static final int DIAGONAL = 73;

    // Cell c of solid r stands at r * CELLS + c.
    private final boolean[] cells = new boolean[ALL_CELLS];

    public OctreeSolid() {
        // A new array holds false alone, which is four empty solids.
    }

    public boolean box(int r, int c, int d, int what) {
        if (!isSolid(r) || !isCell(c) || !isCell(d) || what < 0 || what > 1) {
            return false;
        }
        int base = r * CELLS;
        for (int cell = 0; cell < CELLS; cell++) {
            if (isInBox(cell, c, d)) {
                cells[base + cell] = what == 1;
            }
        }
        return true;
    }

    public boolean combine(int r, int op, int a, int b) {
        if (!isSolid(r) || !isSolid(a) || !isSolid(b) || op < 0 || op >= OPS) {
            return false;
        }
        int to = r * CELLS;
        int first = a * CELLS;
        int second = b * CELLS;
        // A cell of r hangs on the same cell of a and b alone, so r may be one of them.
        for (int cell = 0; cell < CELLS; cell++) {
            cells[to + cell] = joined(op, cells[first + cell], cells[second + cell]);
        }
        return true;
    }

    public boolean turn(int r, int a) {
        if (!isSolid(r) || !isSolid(a)) {
            return false;
        }
        int to = r * CELLS;
        int from = a * CELLS;
        for (int cell = 0; cell < CELLS; cell++) {
            cells[to + cell] = !cells[from + cell];
        }
        return true;
    }

    public boolean mirror(int r, int a, int axis) {
        if (!isSolid(r) || !isSolid(a) || axis < 0 || axis >= AXES) {
            return false;
        }
        int to = r * CELLS;
        int from = a * CELLS;
        // 7 - v is v with its three bits turned over.
        int flip = LAST << (AXIS_BITS * axis);
        for (int cell = 0; cell < CELLS; cell++) {
            int twin = cell ^ flip;
            // Both of a pair are read before either is written, since r may be a.
            if (cell < twin) {
                boolean here = cells[from + cell];
                boolean there = cells[from + twin];
                cells[to + cell] = there;
                cells[to + twin] = here;
            }
        }
        return true;
    }

    public int volume(int r) {
        if (!isSolid(r)) {
            return BAD;
        }
        int base = r * CELLS;
        int count = 0;
        for (int cell = 0; cell < CELLS; cell++) {
            if (cells[base + cell]) {
                count++;
            }
        }
        return count;
    }

    public boolean has(int r, int c) {
        return isSolid(r) && isCell(c) && cells[r * CELLS + c];
    }

    public boolean same(int a, int b) {
        if (!isSolid(a) || !isSolid(b)) {
            return false;
        }
        int first = a * CELLS;
        int second = b * CELLS;
        for (int cell = 0; cell < CELLS; cell++) {
            if (cells[first + cell] != cells[second + cell]) {
                return false;
            }
        }
        return true;
    }

    public boolean inside(int a, int b) {
        if (!isSolid(a) || !isSolid(b)) {
            return false;
        }
        int inner = a * CELLS;
        int outer = b * CELLS;
        for (int cell = 0; cell < CELLS; cell++) {
            if (cells[inner + cell] && !cells[outer + cell]) {
                return false;
            }
        }
        return true;
    }

    public int cubes(int r) {
        if (!isSolid(r)) {
            return BAD;
        }
        int base = r * CELLS;
        int count = 0;
        // The cubes that have one cell lie in each other, so each cell has one largest even cube;
        // counting it at its least cell alone counts it once.
        for (int cell = 0; cell < CELLS; cell++) {
            int k = largestEven(base, cell);
            int span = placeBits(k);
            if ((cell & span) == 0) {
                count++;
            }
        }
        return count;
    }

    public int order(int r, int c) {
        if (!isSolid(r) || !isCell(c)) {
            return BAD;
        }
        return largestEven(r * CELLS, c);
    }

    public int surface(int r) {
        if (!isSolid(r)) {
            return BAD;
        }
        int base = r * CELLS;
        int count = 0;
        for (int cell = 0; cell < CELLS; cell++) {
            if (cells[base + cell]) {
                for (int axis = 0; axis < AXES; axis++) {
                    count += openSides(base, cell, axis);
                }
            }
        }
        return count;
    }

    public int next(int r, int c) {
        if (!isSolid(r)) {
            return BAD;
        }
        int base = r * CELLS;
        int start = c < 0 ? 0 : c;
        for (int cell = start; cell < CELLS; cell++) {
            if (cells[base + cell]) {
                return cell;
            }
        }
        return BAD;
    }

    public int kinds(int r, int k) {
        if (!isSolid(r) || k < 0 || k > TOP_ORDER) {
            return BAD;
        }
        int base = r * CELLS;
        int span = placeBits(k);
        int count = 0;
        for (int corner = 0; corner < CELLS; corner++) {
            if ((corner & span) == 0 && isNewKind(base, corner, span)) {
                count++;
            }
        }
        return count;
    }

    private static boolean isSolid(int r) {
        return r >= 0 && r < SOLIDS;
    }

    private static boolean isCell(int c) {
        return c >= 0 && c < CELLS;
    }

    private static boolean isInBox(int cell, int c, int d) {
        for (int axis = 0; axis < AXES; axis++) {
            int v = coordinate(cell, axis);
            int p = coordinate(c, axis);
            int q = coordinate(d, axis);
            if (v < p && v < q || v > p && v > q) {
                return false;
            }
        }
        return true;
    }

    private static int coordinate(int cell, int axis) {
        return (cell >> (AXIS_BITS * axis)) & LAST;
    }

    private static boolean joined(int op, boolean inA, boolean inB) {
        switch (op) {
            case 0:
                return inA || inB;
            case 1:
                return inA && inB;
            case 2:
                return inA && !inB;
            default:
                return inA != inB;
        }
    }

    // The bits of a cell's number that tell its place in its cube of order k;
    // the other bits are the number of the cube's least cell, its corner.
    private static int placeBits(int k) {
        return DIAGONAL * ((1 << k) - 1);
    }

    private int largestEven(int base, int cell) {
        for (int k = TOP_ORDER; k > 0; k--) {
            int span = placeBits(k);
            if (isEven(base, cell & ~span, span)) {
                return k;
            }
        }
        return 0;
    }

    private boolean isEven(int base, int corner, int span) {
        boolean wanted = cells[base + corner];
        for (int place = 0; place <= span; place++) {
            if ((place & ~span) == 0 && cells[base + corner + place] != wanted) {
                return false;
            }
        }
        return true;
    }

    private int openSides(int base, int cell, int axis) {
        int step = 1 << (AXIS_BITS * axis);
        int v = coordinate(cell, axis);
        int count = 0;
        if (v == 0 || !cells[base + cell - step]) {
            count++;
        }
        if (v == LAST || !cells[base + cell + step]) {
            count++;
        }
        return count;
    }

    private boolean isNewKind(int base, int corner, int span) {
        for (int earlier = 0; earlier < corner; earlier++) {
            if ((earlier & span) == 0 && isAlike(base + earlier, base + corner, span)) {
                return false;
            }
        }
        return true;
    }

    private boolean isAlike(int one, int other, int span) {
        for (int place = 0; place <= span; place++) {
            if ((place & ~span) == 0 && cells[one + place] != cells[other + place]) {
                return false;
            }
        }
        return true;
    }
}
