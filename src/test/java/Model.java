import java.util.HashSet;
import java.util.Set;
import java.util.TreeSet;

/** The document said again with sets and coordinates, as far from the program's way as can be. */
final class Model {
    private final Object[] solids = {new TreeSet<Integer>(), new TreeSet<Integer>(),
        new TreeSet<Integer>(), new TreeSet<Integer>()};

    @SuppressWarnings("unchecked")
    private TreeSet<Integer> solid(int r) {
        return (TreeSet<Integer>) solids[r];
    }

    private static boolean solidsExist(int... numbers) {
        for (int r : numbers) {
            if (r < 0 || r > 3) {
                return false;
            }
        }
        return true;
    }

    private static int cell(int x, int y, int z) {
        return x + 8 * y + 64 * z;
    }

    private static boolean isCell(int c) {
        return c >= 0 && c <= 511;
    }

    private static boolean isCoordinate(int v) {
        return v >= 0 && v <= 7;
    }

    boolean box(int r, int c, int d, int what) {
        if (!solidsExist(r) || !isCell(c) || !isCell(d) || what != 0 && what != 1) {
            return false;
        }
        int[] p = {c % 8, c / 8 % 8, c / 64};
        int[] q = {d % 8, d / 8 % 8, d / 64};
        for (int x = Math.min(p[0], q[0]); x <= Math.max(p[0], q[0]); x++) {
            for (int y = Math.min(p[1], q[1]); y <= Math.max(p[1], q[1]); y++) {
                for (int z = Math.min(p[2], q[2]); z <= Math.max(p[2], q[2]); z++) {
                    if (what == 1) {
                        solid(r).add(cell(x, y, z));
                    } else {
                        solid(r).remove(cell(x, y, z));
                    }
                }
            }
        }
        return true;
    }

    boolean combine(int r, int op, int a, int b) {
        if (!solidsExist(r, a, b) || op < 0 || op > 3) {
            return false;
        }
        TreeSet<Integer> both = new TreeSet<>(solid(a));
        both.retainAll(solid(b));
        TreeSet<Integer> result = new TreeSet<>(solid(a));
        if (op == 0 || op == 3) {
            result.addAll(solid(b));
        }
        if (op == 1) {
            result = both;
        } else if (op == 2) {
            result.removeAll(solid(b));
        } else if (op == 3) {
            result.removeAll(both);
        }
        solids[r] = result;
        return true;
    }

    boolean turn(int r, int a) {
        if (!solidsExist(r, a)) {
            return false;
        }
        TreeSet<Integer> result = new TreeSet<>();
        for (int c = 0; c < 512; c++) {
            if (!solid(a).contains(c)) {
                result.add(c);
            }
        }
        solids[r] = result;
        return true;
    }

    boolean mirror(int r, int a, int axis) {
        if (!solidsExist(r, a) || axis < 0 || axis > 2) {
            return false;
        }
        TreeSet<Integer> result = new TreeSet<>();
        for (int c : solid(a)) {
            int[] v = {c % 8, c / 8 % 8, c / 64};
            v[axis] = 7 - v[axis];
            result.add(cell(v[0], v[1], v[2]));
        }
        solids[r] = result;
        return true;
    }

    int volume(int r) {
        return solidsExist(r) ? solid(r).size() : -1;
    }

    boolean has(int r, int c) {
        return solidsExist(r) && solid(r).contains(c);
    }

    boolean same(int a, int b) {
        return solidsExist(a, b) && solid(a).equals(solid(b));
    }

    boolean inside(int a, int b) {
        return solidsExist(a, b) && solid(b).containsAll(solid(a));
    }

    private static Set<Integer> cube(int k, int a, int b, int c) {
        int s = 1 << k;
        Set<Integer> found = new TreeSet<>();
        for (int z = c; z < c + s; z++) {
            for (int y = b; y < b + s; y++) {
                for (int x = a; x < a + s; x++) {
                    found.add(cell(x, y, z));
                }
            }
        }
        return found;
    }

    private boolean isEven(int r, Set<Integer> cube) {
        int in = 0;
        for (int c : cube) {
            in += solid(r).contains(c) ? 1 : 0;
        }
        return in == 0 || in == cube.size();
    }

    int cubes(int r) {
        if (!solidsExist(r)) {
            return -1;
        }
        Set<Integer> covered = new HashSet<>();
        int count = 0;
        for (int k = 3; k >= 0; k--) {
            int s = 1 << k;
            for (int z = 0; z < 8; z += s) {
                for (int y = 0; y < 8; y += s) {
                    for (int x = 0; x < 8; x += s) {
                        Set<Integer> cube = cube(k, x, y, z);
                        if (isEven(r, cube) && !covered.containsAll(cube)) {
                            count++;
                            covered.addAll(cube);
                        }
                    }
                }
            }
        }
        return count;
    }

    int order(int r, int c) {
        if (!solidsExist(r) || !isCell(c)) {
            return -1;
        }
        int best = -1;
        for (int k = 0; k <= 3; k++) {
            int s = 1 << k;
            if (isEven(r, cube(k, c % 8 / s * s, c / 8 % 8 / s * s, c / 64 / s * s))) {
                best = k;
            }
        }
        return best;
    }

    int surface(int r) {
        if (!solidsExist(r)) {
            return -1;
        }
        int[][] ways = {{1, 0, 0}, {-1, 0, 0}, {0, 1, 0}, {0, -1, 0}, {0, 0, 1}, {0, 0, -1}};
        int count = 0;
        for (int c : solid(r)) {
            for (int[] way : ways) {
                int x = c % 8 + way[0];
                int y = c / 8 % 8 + way[1];
                int z = c / 64 + way[2];
                boolean within = isCoordinate(x) && isCoordinate(y) && isCoordinate(z);
                if (!within || !solid(r).contains(cell(x, y, z))) {
                    count++;
                }
            }
        }
        return count;
    }

    int next(int r, int c) {
        if (!solidsExist(r)) {
            return -1;
        }
        Integer found = solid(r).ceiling(c);
        return found == null ? -1 : found;
    }

    int kinds(int r, int k) {
        if (!solidsExist(r) || k < 0 || k > 3) {
            return -1;
        }
        int s = 1 << k;
        Set<String> seen = new HashSet<>();
        for (int z = 0; z < 8; z += s) {
            for (int y = 0; y < 8; y += s) {
                for (int x = 0; x < 8; x += s) {
                    StringBuilder picture = new StringBuilder();
                    for (int c : cube(k, x, y, z)) {
                        picture.append(solid(r).contains(c) ? '1' : '0');
                    }
                    seen.add(picture.toString());
                }
            }
        }
        return seen.size();
    }
}
