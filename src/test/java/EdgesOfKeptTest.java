/** Each sentence about SLOTS that names an edge: promises 26 and 27. */
public final class EdgesOfKeptTest {
    private static final int UNKNOWN = ZoneBelt.UNKNOWN;
    private static final int STATE = ZoneBelt.STATE;

    public static void main(String[] args) {
        slots0To1();
        noneWereKept();
        theClock();
        eachThatIsKept();
        ticketsAreKept();
        whatIsNotKept();
        theRowIsEmpty();
        keptOverAndOver();
        goneByAnotherBelt();
        Due.end("EdgesOfKeptTest");
    }

    private static void slots0To1() {
        Due.sentence("They are kept: THE CLOCK. UNKNOWN.");
        ZoneBelt x = new ZoneBelt();
        for (int slot : new int[] {-1, 2, 32, Integer.MIN_VALUE, Integer.MAX_VALUE}) {
            Due.is("keep(" + slot + ")", x.keep(slot), UNKNOWN);
            Due.is("again(" + slot + ")", x.again(slot), UNKNOWN);
        }
        Due.is("keep(0)", x.keep(0), 0);
        Due.is("keep(1)", x.keep(1), 0);
        for (int slot : new int[] {-1, 2, 32, 33}) {
            Due.is("again(" + slot + ")", x.again(slot), UNKNOWN);
        }
    }

    private static void noneWereKept() {
        Due.sentence("They are as they were kept: THE CLOCK. UNKNOWN; STATE: none were kept.");
        ZoneBelt x = new ZoneBelt();
        Due.is("again(0)", x.again(0), STATE);
        Due.is("again(1)", x.again(1), STATE);
        x.keep(2);
        Due.is("a refused keep keeps nothing", x.again(0), STATE);
        x.keep(1);
        Due.is("the other one", x.again(0), STATE);
        Due.is("again(1)", x.again(1), 0);
        Due.is("again(1) again", x.again(1), 0);
        ZoneBelt y = new ZoneBelt();
        y.keep(0);
        Due.is("the other one", y.again(1), STATE);
        Due.is("again(0)", y.again(0), 0);
    }

    private static void theClock() {
        Due.sentence("THE CLOCK. UNKNOWN; STATE: none were kept.");
        ZoneBelt x = new ZoneBelt();
        x.step(7);
        Due.is("keep(0)", x.keep(0), 7);
        x.step(99);
        Due.is("keep(1)", x.keep(1), 106);
        Due.is("again(0)", x.again(0), 7);
        Due.is("the clock", x.count(7), 7);
        Due.is("again(1)", x.again(1), 106);
        Due.is("the clock", x.count(7), 106);
    }

    private static void eachThatIsKept() {
        Due.sentence("SLOTS to keep in, 0 to 1, keep ZONES (EYES, too), THE EXIT, TRAIN, REST, TICKETS, how many were FED, are "
            + "OUT, THE CLOCK (THE ROW of ACTS is empty when one goes on).");
        for (int slot = 0; slot <= 1; slot++) {
            ZoneBelt x = Due.told("Z84114c11c07c02c01");
            x.eye(2, 1);
            x.eye(10, 2);
            x.step(4);
            x.turn();
            x.step(1);
            Due.is("a jam is there", x.count(11) == 0 ? 0 : 1, 1);
            Due.is("some sleep", x.count(12) == 0 ? 0 : 1, 1);
            Due.is("one is out", x.count(9), 1);
            long[] counts = Due.counts(x);
            counts[13] = 0;
            long[][] zones = new long[7][];
            for (int what = 0; what < 7; what++) {
                zones[what] = Due.zones(x, what);
            }
            Due.is("keep", x.keep(slot), 5);
            x.eye(2, 0);
            x.eye(10, 1);
            x.lift(2);
            x.clear(1);
            x.feed(0);
            x.feed(1);
            x.turn();
            x.make(0, 0);
            x.make(1, 9);
            x.step(60);
            Due.is("again", x.again(slot), 5);
            Due.all("counts", Due.counts(x), counts);
            for (int what = 0; what < 7; what++) {
                Due.all("zones, " + what, Due.zones(x, what), zones[what]);
            }
            Due.is("the next carton", x.feed(0), 5);
        }
    }

    private static void ticketsAreKept() {
        Due.sentence("TICKETS, how many were FED, are OUT");
        ZoneBelt x = Due.told("Z21100c00c01c02");
        x.turn();
        x.step(1);
        x.keep(0);
        x.turn();
        x.step(9);
        x.feed(0);
        x.feed(1);
        x.step(1);
        Due.all("used up", Due.zones(x, 6), 0, 0, 4);
        x.again(0);
        Due.all("as they were kept", Due.zones(x, 6), 1, 0, 2);
        x.turn();
        x.step(2);
        x.feed(0);
        x.step(1);
        Due.all("the next one is the third", Due.zones(x, 6), 3, 0, 2);
    }

    private static void whatIsNotKept() {
        Due.sentence("keep ZONES (EYES, too), THE EXIT, TRAIN, REST, TICKETS, how many were FED, are OUT, THE CLOCK");
        ZoneBelt x = new ZoneBelt();
        x.keep(0);
        x.write('Z');
        x.see(0, 0, 1);
        x.seed(3);
        x.again(0);
        Due.is("the text", x.count(0), 1);
        Due.is("seen", x.count(14), 1);
        Due.is("the seed", x.seed(3), 3);
        x.wipe();
        x.unsee();
        x.again(0);
        Due.is("the text", x.count(0), 0);
        Due.is("seen", x.count(14), 0);
        x.turn();
        x.keep(1);
        x.again(0);
        Due.is("slot 0 leaves slot 1", x.again(1), 0);
        Due.is("shut", x.count(6), 0);
    }

    private static void theRowIsEmpty() {
        Due.sentence("(THE ROW of ACTS is empty when one goes on)");
        ZoneBelt x = new ZoneBelt();
        for (int i = 0; i < 15; i++) {
            x.turn();
        }
        x.keep(0);
        Due.is("not by keeping", x.count(13), 14);
        x.again(1);
        Due.is("nor when it is refused", x.count(13), 14);
        x.again(0);
        Due.is("empty", x.count(13), 0);
        Due.is("nothing to undo", x.undo(), STATE);
        Due.is("shut as it was kept", x.count(6), 0);
        x.turn();
        Due.is("one act", x.count(13), 1);
        Due.is("it is undone", x.undo(), 0);
        Due.is("shut", x.count(6), 0);
    }

    private static void keptOverAndOver() {
        Due.sentence("They are as they were kept: THE CLOCK.");
        ZoneBelt x = new ZoneBelt();
        for (int i = 0; i < 20; i++) {
            x.step(1);
            Due.is("keep", x.keep(i % 2), i + 1);
        }
        Due.is("the last but one", x.again(0), 19);
        Due.is("the last", x.again(1), 20);
        Due.is("the last but one", x.again(0), 19);
        x.step(1);
        Due.is("steps leave what is kept", x.again(0), 19);
        x.step(1);
        x.undo();
        Due.is("undo leaves what is kept", x.again(1), 20);
    }

    private static void goneByAnotherBelt() {
        Due.sentence("what was kept is gone");
        ZoneBelt x = Due.told("Z20100c00");
        x.keep(0);
        x.keep(1);
        x.write('c');
        Due.is("a refused belt", x.belt(), STATE);
        Due.is("leaves it", x.again(0), 0);
        x.wipe();
        Due.lay(x, "Z20100c00");
        Due.is("gone", x.again(0), STATE);
        Due.is("gone", x.again(1), STATE);
        x.keep(0);
        Due.is("kept anew", x.again(0), 0);
        Due.is("gone", x.again(1), STATE);
    }
}
