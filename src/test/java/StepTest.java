/** Promise 13: step, with each rule of a STEP. */
public final class StepTest {
    private static final int NONE = ZoneBelt.NONE;

    public static void main(String[] args) {
        numbers();
        singly();
        asATrain();
        theExitShut();
        ticketsInTurn();
        ticketWithoutLineOne();
        ticketOfOneThatDoesNotWish();
        lightTakesATicket();
        trainsMeet();
        jams();
        jamWhereLinesMeet();
        lightBlocksOrLeads();
        idle();
        sleepAndWake();
        restNought();
        idleByFeeders();
        twelveZones();
        Due.end("StepTest");
    }

    private static void numbers() {
        ZoneBelt x = Due.told("Z20100c01");
        Due.is("step(0)", x.step(0), ZoneBelt.OUTSIDE);
        Due.is("step(-1)", x.step(-1), ZoneBelt.OUTSIDE);
        Due.is("step(100)", x.step(100), ZoneBelt.OUTSIDE);
        Due.is("step(most)", x.step(Integer.MAX_VALUE), ZoneBelt.OUTSIDE);
        Due.is("the clock", x.count(7), 0);
        Due.is("step(99)", x.step(99), 1);
        Due.is("the clock", x.count(7), 99);
        Due.is("step(1)", x.step(1), 0);
        Due.is("the clock", x.count(7), 100);
    }

    private static void singly() {
        ZoneBelt x = Due.told("Z30100c00c01");
        Due.is("step", x.step(1), 0);
        Due.all("one waits", Due.zones(x, 0), 1, NONE, 2);
        Due.is("step", x.step(1), 1);
        Due.all("then goes", Due.zones(x, 0), NONE, 1, NONE);
        Due.is("steps", x.step(2), 1);
        Due.is("out", x.count(9), 2);
    }

    private static void asATrain() {
        ZoneBelt x = Due.told("Z30110c00c01");
        x.step(1);
        Due.all("both at once", Due.zones(x, 0), NONE, 1, 2);
        Due.is("steps", x.step(2), 2);
        ZoneBelt full = Due.told("Z40110c03c02c01c00");
        Due.is("a full line", full.step(1), 1);
        Due.all("moved on", Due.zones(full, 0), NONE, 4, 3, 2);
    }

    private static void theExitShut() {
        ZoneBelt x = Due.told("Z30110c00c02");
        x.turn();
        x.step(3);
        Due.all("they wait", Due.zones(x, 0), NONE, 1, 2);
        x.turn();
        Due.is("out", x.step(2), 2);
    }

    private static void ticketsInTurn() {
        ZoneBelt x = Due.told("Z31100c00c03");
        x.step(1);
        Due.all("line 0 first", Due.zones(x, 0), NONE, 1, NONE, 2);
        Due.all("the other keeps its ticket", Due.zones(x, 6), 0, 0, 0, 2);
        x.feed(0);
        x.step(1);
        Due.all("none goes into one that sees", Due.zones(x, 0), 3, NONE, 1, 2);
        Due.all("a third ticket", Due.zones(x, 6), 3, 0, 0, 2);
        x.step(1);
        Due.all("the lesser ticket", Due.zones(x, 0), 3, 2, NONE, NONE);
        Due.all("is used up", Due.zones(x, 6), 3, 0, 0, 0);
        x.feed(1);
        x.step(2);
        Due.all("the lesser ticket", Due.zones(x, 0), NONE, 3, NONE, 4);
        Due.all("is used up", Due.zones(x, 6), 0, 0, 0, 4);
    }

    private static void ticketWithoutLineOne() {
        ZoneBelt x = Due.told("Z40200c01c02");
        x.step(1);
        Due.all("zone 1 feeds zone 2", Due.zones(x, 6), 0, 1, 0, 0);
        x.step(1);
        Due.all("and goes", Due.zones(x, 6), 0, 0, 0, 0);
        Due.all("on", Due.zones(x, 0), NONE, NONE, 1, NONE);
    }

    private static void ticketOfOneThatDoesNotWish() {
        ZoneBelt x = Due.told("Z31100c00c01");
        x.step(1);
        x.lift(0);
        Due.is("lifted leaves the ticket", x.zone(0, 6), 1);
        x.feed(1);
        x.step(1);
        Due.is("the other goes all the same", x.zone(1, 0), 3);
        x.feed(0);
        x.feed(1);
        x.step(1);
        Due.all("the old ticket stands", Due.zones(x, 6), 1, 0, 0, 3);
        x.eye(0, 1);
        Due.is("eyed leaves the ticket", x.zone(0, 6), 1);
        x.step(1);
        Due.is("line 1 alone", x.zone(1, 0), 5);
    }

    private static void lightTakesATicket() {
        ZoneBelt x = Due.told("Z31100");
        x.eye(0, 2);
        x.step(1);
        Due.is("taken and lost", x.zone(0, 6), 0);
        x.feed(1);
        x.step(1);
        Due.all("the light one had the lesser ticket", Due.zones(x, 6), 0, 0, 0, 3);
        Due.is("nothing moved", x.zone(3, 0), 1);
        x.step(1);
        Due.is("now", x.zone(1, 0), 1);
        Due.all("tickets", Due.zones(x, 6), 4, 0, 0, 0);
    }

    private static void trainsMeet() {
        ZoneBelt x = Due.told("Z42210c00c01c02c04c05");
        x.step(1);
        // 2 goes, so 1 and 5 may; 1 has the lesser ticket, and 0 goes behind it
        Due.all("line 0", Due.zones(x, 0), NONE, 1, 2, 3, 4, 5);
        x.step(1);
        Due.all("line 1", Due.zones(x, 0), NONE, 1, 5, 2, NONE, 4);
        x.step(1);
        Due.all("line 0", Due.zones(x, 0), NONE, NONE, 1, 5, NONE, 4);
        Due.is("all", x.step(3), 3);
    }

    private static void jams() {
        ZoneBelt x = Due.told("Z30100c00c01");
        x.eye(1, 1);
        x.step(1);
        Due.all("jammed", Due.zones(x, 3), 1, 0, 0);
        Due.all("cartons stay", Due.zones(x, 0), 1, 2, NONE);
        Due.is("the ticket is gone", x.zone(0, 6), 0);
        x.step(5);
        Due.is("jammed ones see", x.zone(0, 2), 1);
        Due.is("but do not wish", x.zone(0, 6), 0);
        x.eye(1, 0);
        Due.is("the other goes", x.step(2), 1);
        Due.all("jammed", Due.zones(x, 3), 1, 0, 0);
        x.clear(0);
        Due.is("goes, too", x.step(3), 1);
    }

    private static void jamWhereLinesMeet() {
        ZoneBelt x = Due.told("Z32210c01c04c02");
        x.eye(2, 1);
        x.step(1);
        Due.all("the lesser ticket alone jams", Due.zones(x, 3), 0, 1, 0, 0, 0);
        x.step(1);
        Due.all("then the other", Due.zones(x, 3), 0, 1, 0, 0, 1);
        x.clear(1);
        x.lift(2);
        x.step(1);
        Due.all("room by now", Due.zones(x, 0), NONE, NONE, 1, NONE, 2);
        Due.all("jammed", Due.zones(x, 3), 0, 0, 0, 0, 1);
    }

    private static void lightBlocksOrLeads() {
        ZoneBelt x = Due.told("Z40300c00");
        x.eye(1, 2);
        x.step(4);
        Due.is("singly a light eye blocks", x.zone(0, 0), 1);
        x.make(0, 1);
        x.step(1);
        Due.is("as a train it counts as one that goes", x.zone(1, 0), 1);
        x.step(1);
        Due.is("and hands on", x.zone(2, 0), 1);
        ZoneBelt last = Due.told("Z20110c00");
        last.eye(1, 2);
        last.turn();
        last.step(3);
        Due.is("not while the exit is shut", last.zone(0, 0), 1);
        last.turn();
        Due.is("a light eye lets nothing out", last.step(1), 0);
        Due.is("but a carton in", last.zone(1, 0), 1);
        Due.is("and out", last.step(1), 1);
    }

    private static void idle() {
        ZoneBelt x = Due.told("Z20100");
        x.step(3);
        Due.all("idle", Due.zones(x, 5), 3, 3);
        x.feed(0);
        x.step(1);
        Due.all("by what is seen then", Due.zones(x, 5), 4, 0);
        x.step(1);
        Due.all("out", Due.zones(x, 5), 5, 1);
        x.feed(0);
        x.turn();
        x.step(1);
        x.feed(0);
        x.step(1);
        Due.all("seen", Due.zones(x, 5), 0, 0);
        Due.all("none sleeps", Due.zones(x, 4), 0, 0);
    }

    private static void sleepAndWake() {
        ZoneBelt x = Due.told("Z30102");
        x.step(1);
        Due.is("asleep", x.count(12), 0);
        x.step(1);
        Due.is("all asleep", x.count(12), 7);
        Due.all("each told", Due.zones(x, 4), 1, 1, 1);
        x.feed(0);
        Due.is("fed wakes none", x.count(12), 7);
        x.step(1);
        Due.is("zone 0 wakes", x.count(12), 6);
        Due.all("idle", Due.zones(x, 5), 0, 0, 3);
        Due.is("and does not go", x.zone(0, 0), 1);
        Due.is("nor wish", x.zone(0, 6), 0);
        x.step(1);
        Due.is("zone 1 wakes", x.count(12), 4);
        Due.is("zone 0 waits", x.zone(0, 0), 1);
        Due.is("with a ticket", x.zone(0, 6), 1);
        x.step(1);
        Due.all("it goes", Due.zones(x, 0), NONE, 1, NONE);
        Due.is("asleep", x.count(12), 4);
        Due.all("idle", Due.zones(x, 5), 1, 0, 0);
        x.step(1);
        Due.is("zone 2 wakes, zone 0 sleeps", x.count(12), 1);
        x.step(1);
        Due.all("it goes", Due.zones(x, 0), NONE, NONE, 1);
        Due.all("idle", Due.zones(x, 5), 3, 1, 0);
        Due.is("out", x.step(1), 1);
        Due.is("asleep", x.count(12), 3);
    }

    private static void restNought() {
        ZoneBelt x = Due.told("Z20101");
        x.step(1);
        Due.is("both asleep", x.count(12), 3);
        x.make(1, 0);
        x.step(1);
        Due.is("stay so", x.count(12), 3);
        Due.all("idle", Due.zones(x, 5), 2, 2);
        x.eye(0, 2);
        x.step(1);
        Due.is("a light eye wakes", x.count(12), 2);
        x.step(1);
        Due.is("and wakes the next", x.count(12), 0);
        x.eye(0, 0);
        x.step(9);
        Due.is("none falls asleep", x.count(12), 0);
        x.make(1, 9);
        x.step(1);
        Due.is("ten are more than nine", x.count(12), 3);
    }

    private static void idleByFeeders() {
        ZoneBelt x = Due.told("Z32200c04");
        x.turn();
        x.eye(2, 2);
        x.step(2);
        // zone 2 sees, so zone 4 stays; zone 1 has no feeder that sees
        Due.all("idle", Due.zones(x, 5), 2, 2, 0, 2, 0);
        x.eye(2, 0);
        x.eye(4, 1);
        x.step(1);
        Due.all("idle", Due.zones(x, 5), 3, 3, 1, 3, 1);
        x.eye(4, 0);
        x.step(1);
        Due.all("idle", Due.zones(x, 5), 4, 4, 0, 4, 2);
        x.eye(2, 1);
        x.feed(1);
        x.step(1);
        Due.all("line 1 feeds within", Due.zones(x, 0), NONE, NONE, 1, NONE, 2);
        Due.all("idle by zone 4, that feeds zone 2", Due.zones(x, 5), 5, 5, 0, 5, 0);
        ZoneBelt entry = Due.told("Z31200c00c01");
        entry.turn();
        entry.eye(1, 2);
        entry.step(3);
        Due.all("line 0 keeps line 1 not busy", Due.zones(entry, 5), 0, 0, 0, 3);
        ZoneBelt alone = Due.told("Z31200c03c02");
        alone.turn();
        alone.eye(2, 1);
        alone.step(3);
        Due.all("a line of one zone feeds, too", Due.zones(alone, 5), 3, 3, 0, 0);
    }

    /** The last of twelve zones, with all that it can have, leaves what others have as it is. */
    private static void twelveZones() {
        ZoneBelt x = Due.told("Z84102c01c11c07");
        x.turn();
        x.step(1);
        Due.all("cartons", Due.zones(x, 0), NONE, NONE, 1, NONE, NONE, NONE, NONE, 3, NONE, NONE, NONE, 2);
        Due.all("eyes", Due.zones(x, 1), 0, 0, 0, 0, 0, 0, 0, 0, 0, 0, 0, 0);
        Due.all("jammed", Due.zones(x, 3), 0, 0, 0, 0, 0, 0, 0, 0, 0, 0, 0, 0);
        Due.all("idle", Due.zones(x, 5), 1, 0, 0, 0, 1, 1, 1, 0, 1, 1, 1, 0);
        Due.all("tickets", Due.zones(x, 6), 0, 0, 0, 0, 0, 0, 0, 0, 0, 0, 0, 1);
        x.step(2);
        Due.all("cartons", Due.zones(x, 0), NONE, NONE, 2, NONE, 1, NONE, NONE, 3, NONE, NONE, NONE, NONE);
        Due.is("zone 11 is idle", x.zone(11, 5), 2);
        Due.is("and asleep", x.zone(11, 4), 1);
        Due.all("tickets", Due.zones(x, 6), 0, 0, 0, 0, 0, 0, 0, 0, 0, 0, 0, 0);
    }
}
