/** The example of README.md answers what README.md says. */
public final class ReadmeTest {
    public static void main(String[] args) {
        Checks checks = new Checks();
        OctreeSolid s = new OctreeSolid();
        checks.due("box 0", true, s.box(0, 0, 219, 1));
        checks.due("box 1", true, s.box(1, 146, 365, 1));
        checks.due("combine", true, s.combine(2, 2, 0, 1));
        checks.due("volume", 56, s.volume(2));
        checks.due("cubes", 15, s.cubes(2));
        checks.due("mirror", true, s.mirror(3, 2, 0));
        checks.due("next", 4, s.next(3, 0));
        checks.due("next from 512 on", OctreeSolid.BAD, s.next(3, 512));
        checks.due("volume of no solid", OctreeSolid.BAD, s.volume(4));
        checks.finish();
    }
}
