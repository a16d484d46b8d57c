import java.util.function.Consumer;

/** Counts and prints the answers that are not as due; each test ends with finish(). */
final class Checks {
    private static final int CELLS = 512;

    private int wrong = 0;

    void due(String what, long want, long got) {
        if (got != want) {
            wrong++;
            System.out.println(what + " answered " + got + ", due is " + want);
        }
    }

    void due(String what, boolean want, boolean got) {
        if (got != want) {
            wrong++;
            System.out.println(what + " answered " + got + ", due is " + want);
        }
    }

    /** Compares solid r, after the story, with what is wanted, cell by cell. */
    void solid(String what, boolean[] want, Consumer<OctreeSolid> story, int r) {
        boolean[] got = cellsAfter(story, r);
        int differing = 0;
        for (int c = 0; c < CELLS; c++) {
            if (got[c] != want[c]) {
                differing++;
            }
        }
        due(what + ": number of wrong cells in solid " + r, 0, differing);
    }

    /** Checks that the wrong call answers false and leaves each solid as the story made it. */
    void refused(String what, Consumer<OctreeSolid> story, java.util.function.Predicate<OctreeSolid> wrongCall) {
        OctreeSolid x = new OctreeSolid();
        story.accept(x);
        due(what, false, wrongCall.test(x));
        for (int r = 0; r < 4; r++) {
            boolean[] before = cellsAfter(story, r);
            solid(what + " changed something", before, story.andThen(wrongCall::test), r);
        }
    }

    /** The cells of r; two objects share the reading, as one is good for 512 calls only. */
    private static boolean[] cellsAfter(Consumer<OctreeSolid> story, int r) {
        boolean[] cells = new boolean[CELLS];
        for (int half = 0; half < 2; half++) {
            OctreeSolid x = new OctreeSolid();
            story.accept(x);
            for (int c = half * CELLS / 2; c < (half + 1) * CELLS / 2; c++) {
                cells[c] = x.has(r, c);
            }
        }
        return cells;
    }

    void finish() {
        System.out.println(wrong == 0 ? "all answers are as due" : wrong + " answers are not as due");
        System.exit(wrong == 0 ? 0 : 1);
    }
}
