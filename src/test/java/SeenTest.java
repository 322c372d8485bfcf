/** Promises 19 to 21: see, unsee, which. */
public final class SeenTest {
    public static void main(String[] args) {
        seeing();
        whichIsDark();
        asAllStandsNow();
        anotherBelt();
        Due.end("SeenTest");
    }

    private static void seeing() {
        ZoneBelt x = new ZoneBelt();
        Due.is("see(31, 0, 0)", x.see(31, 0, 0), ZoneBelt.OUTSIDE);
        Due.is("see(-1, 0, 0)", x.see(-1, 0, 0), ZoneBelt.OUTSIDE);
        Due.is("see(0, 100, 0)", x.see(0, 100, 0), ZoneBelt.OUTSIDE);
        Due.is("see(0, -1, 0)", x.see(0, -1, 0), ZoneBelt.OUTSIDE);
        Due.is("see(0, 0, 2)", x.see(0, 0, 2), ZoneBelt.OUTSIDE);
        Due.is("see(0, 0, -1)", x.see(0, 0, -1), ZoneBelt.OUTSIDE);
        Due.is("see(30, 99, 0)", x.see(30, 99, 0), 1);
        Due.is("see(0, 0, 1)", x.see(0, 0, 1), 2);
        for (int i = 3; i <= 6; i++) {
            Due.is("see(0, 0, 1)", x.see(0, 0, 1), i);
        }
        Due.is("the seventh", x.see(0, 0, 1), ZoneBelt.FULL);
        Due.is("OUTSIDE ahead of FULL", x.see(31, 0, 1), ZoneBelt.OUTSIDE);
        Due.is("count(14)", x.count(14), 6);
        Due.is("which()", x.which(), 3);
        Due.is("unsee()", x.unsee(), 6);
        Due.is("unsee()", x.unsee(), 0);
        Due.is("count(14)", x.count(14), 0);
        Due.is("see(0, 0, 1)", x.see(0, 0, 1), 1);
    }

    private static void which(ZoneBelt x, int n, int v, int was, int want) {
        x.unsee();
        x.see(n, v, was);
        Due.is("which by see(" + n + ", " + v + ", " + was + ")", x.which(), want);
    }

    private static void whichIsDark() {
        ZoneBelt x = Due.told("Z30100c00c01");
        Due.is("nothing seen", x.which(), 7);
        // 0 dark: carton 2 alone goes out, in step 2; 1 dark: zone 0 jams; 2 dark: none leaves it
        which(x, 0, 0, 1, 7);
        which(x, 0, 0, 0, 0);
        which(x, 1, 0, 1, 7);
        which(x, 2, 1, 1, 1);
        which(x, 2, 1, 0, 6);
        which(x, 2, 0, 1, 6);
        which(x, 4, 2, 1, 0);
        which(x, 30, 1, 1, 1);
        which(x, 30, 0, 1, 6);
        x.see(1, 0, 1);
        Due.is("both", x.which(), 6);
        x.see(30, 0, 0);
        Due.is("none by all three", x.which(), 0);
        x.unsee();
        x.eye(0, 2);
        Due.is("sound ones alone", x.which(), 6);
        x.eye(2, 1);
        Due.is("sound ones alone", x.which(), 2);
        Due.is("nothing changed", x.zone(1, 1), 0);
        Due.is("nothing changed", x.count(7), 0);
    }

    private static void asAllStandsNow() {
        ZoneBelt x = Due.told("Z30100c00c01");
        x.see(2, 1, 1);
        Due.is("which()", x.which(), 1);
        x.step(1);
        // carton 2 goes out of zone 2 next, carton 1 comes to zone 1: dark ones there keep none back
        Due.is("which()", x.which(), 3);
        x.step(1);
        Due.is("out in all", x.which(), 6);
        x.turn();
        Due.is("shut", x.which(), 7);
    }

    private static void anotherBelt() {
        ZoneBelt x = Due.told("Z30100c00c01");
        x.see(2, 1, 1);
        Due.lay(x, "Z20100c01");
        Due.is("still seen", x.count(14), 1);
        Due.is("which()", x.which(), 1);
        x.keep(0);
        x.see(1, 1, 0);
        x.again(0);
        Due.is("not kept", x.count(14), 2);
        Due.is("which()", x.which(), 0);
    }
}
