/** Long mixed runs of right and wrong calls, each answer compared with the model's. */
public final class ModelTest {
    private static final int RUNS = 300;
    private static final int CALLS = 512;
    private static final int[] WRONG = {-1, Integer.MIN_VALUE, Integer.MAX_VALUE, -512, 512, 1024, 1 << 30};

    private final Checks checks = new Checks();
    private long seed;
    private String run;
    private OctreeSolid x;
    private Model m;

    public static void main(String[] args) {
        ModelTest test = new ModelTest();
        for (int run = 1; run <= RUNS; run++) {
            test.oneRun(run);
        }
        test.checks.finish();
    }

    private void oneRun(int number) {
        seed = number;
        run = "run " + number + ": ";
        x = new OctreeSolid();
        m = new Model();
        // Some runs only build at first, so that ragged solids are looked at too.
        int building = number % 3 * 40;
        for (int call = 0; call < CALLS; call++) {
            oneCall(call < building ? pick(2) : pick(16));
        }
    }

    /** A fixed sequence of numbers, the same on every machine. */
    private int pick(int bound) {
        seed = seed * 6364136223846793005L + 1442695040888963407L;
        return (int) ((seed >>> 33) % bound);
    }

    /** Mostly 0 .. bound - 1, now and then something outside. */
    private int number(int bound) {
        int chance = pick(60);
        if (chance == 0) {
            return WRONG[pick(WRONG.length)];
        }
        return chance == 1 ? bound : pick(bound);
    }

    private int near(int c) {
        int d = c + pick(3) + 8 * pick(3) + 64 * pick(3);
        return d > 511 ? c : d;
    }

    private void oneCall(int which) {
        int r = number(4);
        int a = number(4);
        int b = number(4);
        int c = number(512);
        switch (which) {
            case 0, 1, 13 -> {
                int d = pick(3) == 0 ? number(512) : near(c);
                int what = number(2);
                checks.due(run + "box(" + r + ", " + c + ", " + d + ", " + what + ")",
                    m.box(r, c, d, what), x.box(r, c, d, what));
            }
            case 2 -> {
                int op = number(4);
                checks.due(run + "combine(" + r + ", " + op + ", " + a + ", " + b + ")",
                    m.combine(r, op, a, b), x.combine(r, op, a, b));
            }
            case 3 -> checks.due(run + "turn(" + r + ", " + a + ")", m.turn(r, a), x.turn(r, a));
            case 4, 14 -> {
                int axis = number(3);
                checks.due(run + "mirror(" + r + ", " + a + ", " + axis + ")",
                    m.mirror(r, a, axis), x.mirror(r, a, axis));
            }
            case 5 -> checks.due(run + "volume(" + r + ")", m.volume(r), x.volume(r));
            case 6 -> checks.due(run + "same(" + a + ", " + b + ")", m.same(a, b), x.same(a, b));
            case 7 -> checks.due(run + "inside(" + a + ", " + b + ")", m.inside(a, b), x.inside(a, b));
            case 8 -> checks.due(run + "cubes(" + r + ")", m.cubes(r), x.cubes(r));
            case 9 -> checks.due(run + "order(" + r + ", " + c + ")", m.order(r, c), x.order(r, c));
            case 10 -> checks.due(run + "surface(" + r + ")", m.surface(r), x.surface(r));
            case 11 -> checks.due(run + "next(" + r + ", " + c + ")", m.next(r, c), x.next(r, c));
            case 12 -> {
                int k = number(4);
                checks.due(run + "kinds(" + r + ", " + k + ")", m.kinds(r, k), x.kinds(r, k));
            }
            default -> checks.due(run + "has(" + r + ", " + c + ")", m.has(r, c), x.has(r, c));
        }
    }
}
