/** Each sentence about SEEN and WHICH that names an edge: promises 19 to 21. */
public final class EdgesOfSeenTest {
    private static final int OUTSIDE = ZoneBelt.OUTSIDE;

    public static void main(String[] args) {
        seeRefused();
        neverMoreThan6();
        unseen();
        whichAlone();
        noneSeen();
        soundOnesAlone();
        darkFromNowOn();
        asAllStandsWhenAsked();
        stepsCounted();
        thirtySteps();
        ninetyNineOut();
        soOrNot();
        allThatIsSeen();
        anotherBelt();
        Due.end("EdgesOfSeenTest");
    }

    private static void seeRefused() {
        Due.sentence("SEEN: how many there are. OUTSIDE: n (0 to 30), v (0 to 99), was (0, 1); FULL: 6.");
        ZoneBelt x = new ZoneBelt();
        for (int bad : new int[] {-1, 31, Integer.MIN_VALUE, Integer.MAX_VALUE}) {
            Due.is("see(" + bad + ", 0, 0)", x.see(bad, 0, 0), OUTSIDE);
        }
        for (int bad : new int[] {-1, 100, Integer.MIN_VALUE, Integer.MAX_VALUE}) {
            Due.is("see(0, " + bad + ", 0)", x.see(0, bad, 0), OUTSIDE);
        }
        for (int bad : new int[] {-1, 2, Integer.MIN_VALUE, Integer.MAX_VALUE}) {
            Due.is("see(0, 0, " + bad + ")", x.see(0, 0, bad), OUTSIDE);
        }
        Due.is("none", x.count(14), 0);
        Due.is("see(0, 0, 0)", x.see(0, 0, 0), 1);
        Due.is("see(30, 99, 1)", x.see(30, 99, 1), 2);
    }

    private static void neverMoreThan6() {
        Due.sentence("never more than 6, none at first (another BELT leaves them).");
        ZoneBelt x = new ZoneBelt();
        Due.is("none at first", x.count(14), 0);
        for (int i = 1; i <= 6; i++) {
            Due.is("see", x.see(i, 0, 1), i);
        }
        Due.is("the seventh", x.see(0, 0, 1), ZoneBelt.FULL);
        Due.is("the seventh, so not told", x.see(0, 0, 0), ZoneBelt.FULL);
        Due.is("OUTSIDE comes first", x.see(31, 0, 1), OUTSIDE);
        Due.is("OUTSIDE comes first", x.see(0, 100, 1), OUTSIDE);
        Due.is("OUTSIDE comes first", x.see(0, 0, 2), OUTSIDE);
        Due.is("six", x.count(14), 6);
        Due.is("what was refused is not seen", x.which(), 3);
    }

    private static void unseen() {
        Due.sentence("Nothing is SEEN: how much there was.");
        ZoneBelt x = new ZoneBelt();
        Due.is("unsee() at first", x.unsee(), 0);
        x.see(0, 1, 1);
        Due.is("none could be", x.which(), 0);
        Due.is("unsee() of one", x.unsee(), 1);
        Due.is("all could be", x.which(), 3);
        Due.is("unsee() of none", x.unsee(), 0);
        for (int i = 1; i <= 6; i++) {
            x.see(0, 0, 1);
        }
        Due.is("unsee() of six", x.unsee(), 6);
        Due.is("there is room again", x.see(0, 0, 1), 1);
    }

    private static void whichAlone() {
        Due.sentence("`int which()`: WHICH.");
        ZoneBelt x = Due.told("Z21100c02");
        x.see(2, 0, 1);
        Due.is("zones 1 and 2 hold it back", x.which(), 6);
        Due.is("asked again", x.which(), 6);
        Due.is("nothing is seen by that", x.count(14), 1);
    }

    private static void noneSeen() {
        Due.sentence("WHICH: such ZONES by which all that is SEEN is so.");
        Due.is("two zones", new ZoneBelt().which(), 3);
        Due.is("eight zones", Due.told("Z80100").which(), 255);
        Due.is("twelve zones", Due.told("Z84100").which(), 4095);
    }

    private static void soundOnesAlone() {
        Due.sentence("the EYE of an unknown ZONE that is SOUND being DARK from now on");
        ZoneBelt x = Due.told("Z21100c00");
        x.eye(0, 1);
        Due.is("a dark one is not sound", x.which(), 6);
        x.eye(1, 2);
        Due.is("nor is a light one", x.which(), 4);
        x.eye(2, 2);
        Due.is("none is", x.which(), 0);
        x.see(0, 0, 1);
        Due.is("none is", x.which(), 0);
        x.eye(0, 0);
        Due.is("one is", x.which(), 1);
        Due.is("its eye stays sound", x.zone(0, 1), 0);
    }

    private static void darkFromNowOn() {
        Due.sentence("being DARK from now on (as all stands when that is asked, not when it was told)");
        ZoneBelt x = Due.told("Z30100c00");
        x.see(3, 0, 1);
        Due.is("any of three holds it back", x.which(), 7);
        x.step(1);
        Due.is("zone 0 does not any more", x.which(), 6);
        x.step(1);
        Due.is("nor does zone 1", x.which(), 4);
        x.step(1);
        Due.is("it is out", x.which(), 0);
        x.undo();
        Due.is("undone", x.which(), 4);
    }

    private static void asAllStandsWhenAsked() {
        Due.sentence("(as all stands when that is asked, not when it was told)");
        ZoneBelt x = Due.told("Z20100c01");
        x.see(1, 1, 1);
        Due.is("by zone 0 dark it goes out", x.which(), 1);
        x.turn();
        Due.is("shut", x.which(), 0);
        x.turn();
        x.lift(1);
        Due.is("lifted", x.which(), 0);
        x.undo();
        x.eye(0, 1);
        Due.is("zone 0 is not sound", x.which(), 0);
    }

    private static void which(ZoneBelt x, int n, int v, int was, int want) {
        x.unsee();
        x.see(n, v, was);
        Due.is("which by see(" + n + ", " + v + ", " + was + ")", x.which(), want);
    }

    private static void stepsCounted() {
        Due.sentence("behind n STEPS (0 to 30) OUT in all are v (0 to 99): that is so (1), or not (0)");
        ZoneBelt x = Due.told("Z30100c02c01");
        x.step(1);
        // carton 1 is out; carton 2 is in zone 2, where a dark eye holds it
        which(x, 0, 1, 1, 7);
        which(x, 0, 0, 1, 0);
        which(x, 0, 2, 1, 0);
        x.step(1);
        which(x, 0, 1, 1, 7);
        which(x, 1, 2, 1, 3);
        which(x, 1, 1, 1, 4);
        which(x, 1, 2, 0, 4);
        which(x, 30, 2, 1, 3);
        which(x, 30, 1, 1, 4);
        which(x, 30, 99, 1, 0);
        which(x, 30, 99, 0, 7);
    }

    private static void thirtySteps() {
        Due.sentence("behind n STEPS (0 to 30)");
        ZoneBelt x = Due.told("Z84101c00c01c02c03c04c05c06c07c09c10c11");
        x.eye(0, 2);
        // zone 8 has no carton: by it alone all eleven go out, the last one in step 28
        which(x, 27, 11, 1, 0);
        which(x, 28, 11, 1, 1 << 8);
        which(x, 30, 11, 1, 1 << 8);
        which(x, 25, 10, 1, 0);
        which(x, 26, 10, 1, 1 << 8 | 1 << 9);
        which(x, 27, 10, 1, 1 << 8 | 1 << 9);
        which(x, 28, 10, 1, 1 << 9);
        which(x, 30, 0, 1, 1 << 7);
        which(x, 30, 0, 0, 4095 - 1 - (1 << 7));
        which(x, 1, 0, 1, 1 << 7);
        which(x, 0, 0, 1, 4094);
    }

    private static void ninetyNineOut() {
        Due.sentence("OUT in all are v (0 to 99)");
        ZoneBelt x = new ZoneBelt();
        for (int i = 1; i <= 99; i++) {
            x.feed(0);
            if (i < 99) {
                x.step(2);
            }
        }
        which(x, 0, 98, 1, 3);
        which(x, 2, 99, 1, 0);
        x.step(1);
        which(x, 1, 99, 1, 1);
        which(x, 1, 98, 1, 2);
        x.step(1);
        which(x, 0, 99, 1, 3);
        which(x, 30, 99, 1, 3);
        which(x, 30, 99, 0, 0);
    }

    private static void soOrNot() {
        Due.sentence("that is so (1), or not (0)");
        ZoneBelt x = Due.told("Z20100c01");
        which(x, 1, 1, 1, 1);
        which(x, 1, 1, 0, 2);
        which(x, 1, 0, 1, 2);
        which(x, 1, 0, 0, 1);
    }

    private static void allThatIsSeen() {
        Due.sentence("by which all that is SEEN is so");
        ZoneBelt x = Due.told("Z40100c00c01c02c03");
        // dark at 0: three out; at 1: two; at 2: one; at 3: none
        int[] none = {0, 3, 2, 1};
        int want = 15;
        for (int i = 0; i < 4; i++) {
            Due.is("see", x.see(30, none[i], 0), i + 1);
            want &= ~(1 << (3 - none[i]));
            Due.is("one fewer", x.which(), want);
        }
        Due.is("none left", x.which(), 0);
        x.unsee();
        for (int i = 0; i < 5; i++) {
            x.see(30, 4, 0);
        }
        Due.is("five that all know", x.which(), 15);
        x.see(0, 1, 1);
        Due.is("the sixth counts, too", x.which(), 0);
        x.unsee();
        x.see(30, 2, 1);
        x.see(0, 0, 1);
        Due.is("later steps told first", x.which(), 2);
        x.see(30, 3, 1);
        Due.is("two that can not both be so", x.which(), 0);
    }

    private static void anotherBelt() {
        Due.sentence("(another BELT leaves them)");
        ZoneBelt x = Due.told("Z20100c01");
        for (int i = 0; i < 6; i++) {
            x.see(1, 1, 1);
        }
        Due.is("which()", x.which(), 1);
        Due.lay(x, "Z40100c03");
        Due.is("six still", x.count(14), 6);
        Due.is("which()", x.which(), 7);
        Due.is("full still", x.see(0, 0, 0), ZoneBelt.FULL);
        Due.is("unsee()", x.unsee(), 6);
    }
}
