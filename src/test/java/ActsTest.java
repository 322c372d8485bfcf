/** Promises 6 to 12 and 14: zone, feed, lift, turn, eye, make, clear, undo. */
public final class ActsTest {
    private static final int NONE = ZoneBelt.NONE;

    public static void main(String[] args) {
        zoneTells();
        feeding();
        ninetyNine();
        lifting();
        turning();
        eyes();
        making();
        clearing();
        undoingEach();
        undoingFourteen();
        refusedAreNoActs();
        Due.end("ActsTest");
    }

    private static void zoneTells() {
        ZoneBelt x = Due.told("Z31100c00c03");
        Due.is("zone(4, 0)", x.zone(4, 0), ZoneBelt.UNKNOWN);
        Due.is("zone(-1, 0)", x.zone(-1, 0), ZoneBelt.UNKNOWN);
        Due.is("UNKNOWN ahead of OUTSIDE", x.zone(4, 7), ZoneBelt.UNKNOWN);
        Due.is("zone(3, 7)", x.zone(3, 7), ZoneBelt.OUTSIDE);
        Due.is("zone(3, -1)", x.zone(3, -1), ZoneBelt.OUTSIDE);
        Due.is("zone(most, 0)", x.zone(Integer.MAX_VALUE, 0), ZoneBelt.UNKNOWN);
        Due.is("zone(least, 0)", x.zone(Integer.MIN_VALUE, 0), ZoneBelt.UNKNOWN);
        Due.all("cartons", Due.zones(x, 0), 1, NONE, NONE, 2);
        Due.all("sound eyes see cartons", Due.zones(x, 2), 1, 0, 0, 1);
        x.eye(0, 1);
        x.eye(1, 2);
        Due.all("eyes", Due.zones(x, 1), 1, 2, 0, 0);
        Due.all("dark and light", Due.zones(x, 2), 0, 1, 0, 1);
        x.eye(3, 2);
        Due.is("light with a carton", x.zone(3, 2), 1);
    }

    private static void feeding() {
        ZoneBelt x = Due.told("Z21100c01");
        Due.is("feed(2)", x.feed(2), ZoneBelt.UNKNOWN);
        Due.is("feed(-1)", x.feed(-1), ZoneBelt.UNKNOWN);
        Due.is("feed(0)", x.feed(0), 2);
        Due.is("feed(0) again", x.feed(0), ZoneBelt.STATE);
        Due.is("feed(1)", x.feed(1), 3);
        Due.is("feed(1) again", x.feed(1), ZoneBelt.STATE);
        Due.all("cartons", Due.zones(x, 0), 2, 1, 3);
        Due.is("fed", x.count(8), 3);
        ZoneBelt alone = new ZoneBelt();
        Due.is("no line 1", alone.feed(1), ZoneBelt.UNKNOWN);
        alone.eye(0, 2);
        Due.is("a light eye does not matter", alone.feed(0), 1);
        alone.eye(0, 1);
        Due.is("a dark eye does not matter", alone.feed(0), ZoneBelt.STATE);
    }

    private static void ninetyNine() {
        ZoneBelt x = new ZoneBelt();
        for (int i = 1; i <= 99; i++) {
            Due.is("feed(0)", x.feed(0), i);
            if (i < 99) {
                Due.is("step(2)", x.step(2), 1);
            }
        }
        Due.is("STATE ahead of FULL", x.feed(0), ZoneBelt.STATE);
        Due.is("judge: not fed", x.judge(2, 102200L), 1);
        Due.is("step(2)", x.step(2), 1);
        Due.is("99 were", x.feed(0), ZoneBelt.FULL);
        Due.is("UNKNOWN ahead of FULL", x.feed(1), ZoneBelt.UNKNOWN);
        Due.is("fed", x.count(8), 99);
        Due.is("out", x.count(9), 99);
        Due.is("judge: 99 are out", x.judge(1, 799L), NONE);
        Due.is("none is drawn", x.drawn(40), 0);
        Due.is("the steps undone", x.undo(), 13);
        Due.is("the last carton undone", x.undo(), 12);
        Due.is("it can be fed", x.feed(0), 99);
    }

    private static void lifting() {
        ZoneBelt x = Due.told("Z30100c00c01");
        Due.is("lift(3)", x.lift(3), ZoneBelt.UNKNOWN);
        Due.is("lift(-1)", x.lift(-1), ZoneBelt.UNKNOWN);
        Due.is("lift(2)", x.lift(2), ZoneBelt.STATE);
        x.eye(1, 1);
        x.step(1);
        Due.is("jammed", x.zone(0, 3), 1);
        Due.is("lift(0)", x.lift(0), 1);
        Due.is("jammed no more", x.zone(0, 3), 0);
        Due.is("none", x.zone(0, 0), NONE);
        Due.is("lift(0) again", x.lift(0), ZoneBelt.STATE);
        Due.is("not out", x.count(9), 0);
        Due.is("still fed", x.count(8), 2);
        Due.is("the next number", x.feed(0), 3);
        Due.is("a dark eye does not matter", x.lift(1), 2);
    }

    private static void turning() {
        ZoneBelt x = Due.told("Z20100c01");
        Due.is("turn()", x.turn(), 0);
        Due.is("shut", x.count(6), 0);
        Due.is("nothing goes out", x.step(5), 0);
        Due.is("turn()", x.turn(), 1);
        Due.is("open", x.count(6), 1);
        Due.is("it goes out", x.step(1), 1);
    }

    private static void eyes() {
        ZoneBelt x = new ZoneBelt();
        Due.is("eye(2, 0)", x.eye(2, 0), ZoneBelt.UNKNOWN);
        Due.is("eye(-1, 0)", x.eye(-1, 0), ZoneBelt.UNKNOWN);
        Due.is("UNKNOWN ahead of OUTSIDE", x.eye(2, 3), ZoneBelt.UNKNOWN);
        Due.is("eye(0, 3)", x.eye(0, 3), ZoneBelt.OUTSIDE);
        Due.is("eye(0, -1)", x.eye(0, -1), ZoneBelt.OUTSIDE);
        Due.is("eye(0, 2)", x.eye(0, 2), 0);
        Due.is("eye(0, 1)", x.eye(0, 1), 2);
        Due.is("eye(0, 0)", x.eye(0, 0), 1);
        Due.is("eye(0, 0)", x.eye(0, 0), 0);
        Due.is("eye(1, 1)", x.eye(1, 1), 0);
        Due.is("five acts", x.count(13), 5);
    }

    private static void making() {
        ZoneBelt x = new ZoneBelt();
        Due.is("make(2, 0)", x.make(2, 0), ZoneBelt.OUTSIDE);
        Due.is("make(-1, 0)", x.make(-1, 0), ZoneBelt.OUTSIDE);
        Due.is("make(0, 2)", x.make(0, 2), ZoneBelt.OUTSIDE);
        Due.is("make(0, -1)", x.make(0, -1), ZoneBelt.OUTSIDE);
        Due.is("make(1, 10)", x.make(1, 10), ZoneBelt.OUTSIDE);
        Due.is("make(1, -1)", x.make(1, -1), ZoneBelt.OUTSIDE);
        Due.is("make(0, 1)", x.make(0, 1), 0);
        Due.is("make(0, 0)", x.make(0, 0), 1);
        Due.is("make(0, 1)", x.make(0, 1), 0);
        Due.is("make(1, 9)", x.make(1, 9), 0);
        Due.is("make(1, 4)", x.make(1, 4), 9);
        Due.is("make(1, 4)", x.make(1, 4), 4);
        Due.is("train", x.count(4), 1);
        Due.is("rest", x.count(5), 4);
        Due.is("acts", x.count(13), 6);
    }

    private static void clearing() {
        ZoneBelt x = Due.told("Z40110c00c01c02");
        x.eye(2, 1);
        Due.is("clear(4)", x.clear(4), ZoneBelt.UNKNOWN);
        Due.is("clear(-1)", x.clear(-1), ZoneBelt.UNKNOWN);
        Due.is("clear(0)", x.clear(0), ZoneBelt.STATE);
        x.step(1);
        // zone 1 goes into the one unseen, and zone 0 as a train behind it
        Due.is("both are jammed", x.count(11), 3);
        Due.is("clear(0)", x.clear(0), 1);
        Due.is("one is", x.count(11), 2);
        Due.is("its carton stays", x.zone(0, 0), 1);
        Due.is("clear(0) again", x.clear(0), ZoneBelt.STATE);
        Due.is("clear(1)", x.clear(1), 0);
        x.eye(2, 0);
        Due.is("all go out", x.step(5), 3);
    }

    private static void undoingEach() {
        ZoneBelt x = Due.told("Z31100c01c03c00");
        x.eye(1, 1);
        x.step(1);
        Due.is("two jammed at most", x.count(11), 1);
        long[] cartons = Due.zones(x, 0);
        long[] counts = Due.counts(x);
        int left = x.count(13);
        x.lift(0);
        Due.is("undo lift", x.undo(), left);
        x.turn();
        Due.is("undo turn", x.undo(), left);
        x.eye(1, 2);
        Due.is("undo eye", x.undo(), left);
        x.make(0, 1);
        Due.is("undo train", x.undo(), left);
        x.make(1, 7);
        Due.is("undo rest", x.undo(), left);
        x.clear(0);
        Due.is("undo clear", x.undo(), left);
        x.step(44);
        Due.is("undo steps", x.undo(), left);
        Due.all("cartons as they were", Due.zones(x, 0), cartons);
        Due.all("counts as they were", Due.counts(x), counts);
        Due.is("eye as it was", x.zone(1, 1), 1);
        Due.is("undo the step", x.undo(), 1);
        Due.all("idle, too", Due.zones(x, 5), 0, 0, 0, 0);
        Due.all("tickets, too", Due.zones(x, 6), 0, 0, 0, 0);
        Due.is("clock, too", x.count(7), 0);
        Due.is("jams, too", x.count(11), 0);
        Due.is("undo the eye", x.undo(), 0);
        Due.is("eye", x.zone(1, 1), 0);
        Due.is("undo nothing", x.undo(), ZoneBelt.STATE);
        x.step(1);
        Due.is("the tickets that were taken, too", x.zone(3, 6), 2);
    }

    private static void undoingFourteen() {
        ZoneBelt x = new ZoneBelt();
        Due.is("feed", x.feed(0), 1);
        for (int rest = 1; rest <= 9; rest++) {
            x.make(1, rest);
        }
        for (int i = 0; i < 4; i++) {
            x.turn();
        }
        Due.is("fourteen", x.count(13), 14);
        x.make(0, 1);
        Due.is("still fourteen", x.count(13), 14);
        x.eye(1, 1);
        Due.is("still fourteen", x.count(13), 14);
        for (int left = 13; left >= 0; left--) {
            Due.is("undo", x.undo(), left);
        }
        Due.is("no more", x.undo(), ZoneBelt.STATE);
        Due.is("the first two stay: the carton", x.zone(0, 0), 1);
        Due.is("the first two stay: rest", x.count(5), 1);
        Due.is("train", x.count(4), 0);
        Due.is("acts again", x.turn(), 0);
        Due.is("undo", x.undo(), 0);
    }

    private static void refusedAreNoActs() {
        ZoneBelt x = Due.told("Z30100c00");
        x.feed(0);
        x.feed(1);
        x.lift(1);
        x.lift(3);
        x.eye(0, 3);
        x.eye(3, 0);
        x.make(0, 2);
        x.clear(0);
        x.clear(3);
        x.step(0);
        x.step(100);
        Due.is("no acts", x.count(13), 0);
        Due.is("asked ones are none", x.ask(0) + x.ahead(3, 0, 5) + x.judge(1, 101L) + x.which(), 3 + 3 - 9 + 7);
        x.drawn(3);
        x.keep(0);
        x.see(1, 1, 1);
        x.seed(3);
        Due.is("no acts", x.count(13), 0);
    }
}
