/** Promises 26 and 27: keep, again. */
public final class KeptTest {
    public static void main(String[] args) {
        refused();
        allIsKept();
        twoSlots();
        Due.end("KeptTest");
    }

    private static void refused() {
        ZoneBelt x = new ZoneBelt();
        Due.is("keep(2)", x.keep(2), ZoneBelt.UNKNOWN);
        Due.is("keep(-1)", x.keep(-1), ZoneBelt.UNKNOWN);
        Due.is("again(2)", x.again(2), ZoneBelt.UNKNOWN);
        Due.is("again(-1)", x.again(-1), ZoneBelt.UNKNOWN);
        Due.is("again(0)", x.again(0), ZoneBelt.STATE);
        x.turn();
        Due.is("keep(1)", x.keep(1), 0);
        Due.is("again(0)", x.again(0), ZoneBelt.STATE);
        Due.is("refused changes nothing", x.count(13), 1);
        Due.is("again(1)", x.again(1), 0);
        Due.is("the row of acts is empty", x.count(13), 0);
    }

    private static void allIsKept() {
        ZoneBelt x = Due.told("Z43212c00c01c05c06");
        x.eye(3, 2);
        x.eye(1, 1);
        x.turn();
        x.step(5);
        x.step(1);
        long[] counts = Due.counts(x);
        long[][] zones = new long[7][];
        for (int what = 0; what < 7; what++) {
            zones[what] = Due.zones(x, what);
        }
        Due.is("keep(0)", x.keep(0), 6);
        Due.is("acts stay", x.count(13), 5);
        for (int round = 0; round < 2; round++) {
            x.turn();
            x.make(0, 0);
            x.make(1, 5);
            x.feed(0);
            x.feed(1);
            x.eye(1, 0);
            x.eye(3, 0);
            x.lift(0);
            x.step(17);
            x.feed(1);
            x.seed(9);
            Due.is("again(0)", x.again(0), 6);
            counts[13] = 0;
            Due.all("counts as they were kept", Due.counts(x), counts);
            for (int what = 0; what < 7; what++) {
                Due.all("zones as they were kept, " + what, Due.zones(x, what), zones[what]);
            }
            Due.is("nothing to undo", x.undo(), ZoneBelt.STATE);
            Due.is("the seed is not kept", x.seed(9), 9);
            Due.is("the next number", x.feed(1), 5);
            x.undo();
        }
    }

    private static void twoSlots() {
        ZoneBelt x = Due.told("Z31100c00c03");
        x.step(1);
        Due.is("keep(0)", x.keep(0), 1);
        x.feed(0);
        x.step(2);
        Due.is("a third ticket", x.zone(0, 6), 3);
        Due.is("keep(1)", x.keep(1), 3);
        Due.is("again(0)", x.again(0), 1);
        Due.is("the second ticket", x.zone(3, 6), 2);
        x.feed(0);
        x.step(1);
        Due.is("how many were taken is kept", x.zone(0, 6), 3);
        Due.is("again(1)", x.again(1), 3);
        Due.is("keep(0) over the old one", x.keep(0), 3);
        x.step(9);
        Due.is("again(0)", x.again(0), 3);
        Due.is("undo leaves what is kept", x.turn(), 0);
        x.undo();
        Due.is("again(1)", x.again(1), 3);
        Due.lay(x, "Z20100");
        Due.is("another belt: gone", x.again(0), ZoneBelt.STATE);
        Due.is("another belt: gone", x.again(1), ZoneBelt.STATE);
        Due.is("keep(1)", x.keep(1), 0);
        Due.is("again(0)", x.again(0), ZoneBelt.STATE);
        Due.is("again(1)", x.again(1), 0);
    }
}
