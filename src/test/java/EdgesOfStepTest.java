/** Each sentence about a STEP that names an edge, those told more plainly too: promise 13. */
public final class EdgesOfStepTest {
    private static final int NONE = ZoneBelt.NONE;

    public static void main(String[] args) {
        from1To99();
        asMuchAsSingleSteps();
        asleepOnesWakeOnly();
        asleepOnesDoNotLead();
        darkOnesSleepOn();
        wishes();
        jammedOnesDoNotWish();
        jammedOnesWakeNone();
        ticketsForGood();
        ticketWithoutLine1();
        lastOneOfLine0();
        meetingAtTheExit();
        mayGo();
        mayNotGoIntoOneAsleep();
        bothWakeTheMeeting();
        lesserTicketAlone();
        oneThatMayAlone();
        lightOnesGo();
        lightOnesLoseTheirTickets();
        trains();
        roomByNow();
        jamsInARow();
        line1ComesLast();
        idleAndRest();
        idleGoesOn();
        idleStaysAsItIs();
        restNought();
        restToldAnew();
        theClock();
        Due.end("EdgesOfStepTest");
    }

    private static void from1To99() {
        Due.sentence("STEPS: how many were OUT by them. OUTSIDE: n (1 to 99).");
        ZoneBelt x = Due.told("Z20100c01c00");
        for (int n : new int[] {0, -1, 100, Integer.MIN_VALUE, Integer.MAX_VALUE}) {
            Due.is("step(" + n + ")", x.step(n), ZoneBelt.OUTSIDE);
        }
        Due.is("the clock stands", x.count(7), 0);
        Due.is("step(1)", x.step(1), 1);
        Due.is("step(99)", x.step(99), 1);
        Due.is("step(99)", x.step(99), 0);
        Due.is("the clock", x.count(7), 199);
        Due.is("out in all", x.count(9), 2);
    }

    private static void asMuchAsSingleSteps() {
        Due.sentence("STEPS: n of them");
        String[] texts = {"Z84102c00c01c02c08c11", "Z74511c06c05c10c03", "Z21119c00c02"};
        for (String text : texts) {
            ZoneBelt x = Due.told(text);
            ZoneBelt y = Due.told(text);
            int out = 0;
            for (int i = 0; i < 9; i++) {
                out += y.step(1);
            }
            Due.is("nine at once", x.step(9), out);
            for (int what = 0; what <= 6; what++) {
                Due.all("zones, " + what, Due.zones(x, what), Due.zones(y, what));
            }
            Due.is("one act", x.count(13), 1);
            Due.is("nine acts", y.count(13), 9);
        }
    }

    private static void asleepOnesWakeOnly() {
        Due.sentence("WAKES: a ZONE that is ASLEEP and SEES wakes; it does not WISH in this STEP.");
        ZoneBelt x = Due.told("Z20101");
        x.step(1);
        Due.is("both asleep", x.count(12), 3);
        x.feed(0);
        x.step(1);
        Due.is("zone 0 is awake", x.count(12), 2);
        Due.is("it did not wish: no ticket", x.zone(0, 6), 0);
        Due.is("its carton stays", x.zone(0, 0), 1);
        x.step(1);
        Due.is("it wishes now", x.zone(0, 6), 1);
        Due.is("zone 1 wakes by it", x.count(12), 0);
        Due.is("its carton stays", x.zone(0, 0), 1);
        x.step(1);
        Due.is("it goes", x.zone(1, 0), 1);
        Due.is("zone 0 sleeps", x.count(12), 1);
        Due.is("out", x.step(1), 1);
    }

    /** A belt of three zones, the last one asleep and light, zone 1 with a carton and awake. */
    private static ZoneBelt lastOneAsleepAndLight() {
        ZoneBelt x = Due.told("Z30111c01");
        x.eye(1, 1);
        x.eye(0, 2);
        x.step(1);
        Due.is("zone 2 alone sleeps", x.count(12), 4);
        x.eye(1, 0);
        x.eye(0, 0);
        x.eye(2, 2);
        return x;
    }

    private static void asleepOnesDoNotLead() {
        Due.sentence("A ZONE WISHES, if it SEES, is not JAMMED, and was not ASLEEP.");
        ZoneBelt x = lastOneAsleepAndLight();
        x.step(1);
        Due.is("zone 2 woke", x.zone(2, 4), 0);
        Due.is("it did not go, nor zone 1 behind it as a train", x.zone(1, 0), 1);
        x.step(1);
        Due.is("now both go", x.zone(2, 0), 1);
        Due.is("out", x.step(1), 1);
    }

    private static void darkOnesSleepOn() {
        Due.sentence("REST 0: no ZONE falls ASLEEP, those that are stay so till they wake.");
        ZoneBelt x = Due.told("Z20101c00");
        x.eye(0, 1);
        x.step(1);
        Due.is("asleep with its carton", x.count(12), 3);
        x.make(1, 0);
        x.step(3);
        Due.is("it sees nothing and sleeps on", x.count(12), 3);
        Due.is("idle", x.zone(0, 5), 4);
        Due.is("its carton", x.zone(0, 0), 1);
        x.eye(0, 0);
        Due.is("an eye alone wakes none", x.count(12), 3);
        x.step(1);
        Due.is("a step does", x.count(12), 2);
        Due.is("out by three more", x.step(3), 1);
        x.step(20);
        Due.is("none falls asleep", x.count(12), 0);
    }

    private static void wishes() {
        Due.sentence("A ZONE WISHES, if it SEES");
        ZoneBelt x = Due.told("Z30100c00c02");
        x.eye(0, 1);
        x.eye(2, 1);
        Due.is("dark ones hold their cartons", x.step(9), 0);
        Due.all("cartons", Due.zones(x, 0), 1, NONE, 2);
        Due.is("no ticket", x.zone(0, 6), 0);
        x.eye(2, 2);
        Due.is("a light one with a carton", x.step(1), 1);
    }

    private static void jammedOnesDoNotWish() {
        Due.sentence("JAMMED ones do not WISH, but SEE.");
        ZoneBelt x = Due.told("Z40210c00c01c02");
        x.eye(2, 1);
        x.step(1);
        Due.all("a train that jams", Due.zones(x, 3), 1, 1, 0, 0);
        x.lift(2);
        x.eye(2, 0);
        x.step(5);
        Due.all("room ahead, but they stay", Due.zones(x, 0), 1, 2, NONE, NONE);
        Due.all("they see", Due.zones(x, 2), 1, 1, 0, 0);
        Due.is("zone 1, that feeds J, takes no ticket", x.zone(1, 6), 0);
        x.clear(0);
        x.step(3);
        Due.all("nor lead a train", Due.zones(x, 0), 1, 2, NONE, NONE);
        x.clear(1);
        x.step(1);
        Due.all("cleared, they go", Due.zones(x, 0), NONE, 1, 2, NONE);
        Due.is("idle of zone 2 stayed 0 by zone 1", x.zone(2, 5), 0);
    }

    private static void jammedOnesWakeNone() {
        Due.sentence("else IDLE is 0 (it stays ASLEEP or awake).");
        ZoneBelt x = Due.told("Z30101c00c01");
        x.eye(1, 1);
        x.step(1);
        Due.is("jammed", x.count(11), 1);
        x.eye(0, 1);
        x.step(1);
        Due.is("all asleep, the jammed one too", x.count(12), 7);
        x.eye(0, 0);
        x.step(1);
        Due.is("it sees and wakes", x.count(12), 6);
        Due.is("idle of zone 1", x.zone(1, 5), 0);
        x.step(4);
        Due.is("it does not wish, so zone 1 sleeps on", x.count(12), 6);
        Due.is("idle of zone 1", x.zone(1, 5), 0);
        x.clear(0);
        x.step(1);
        Due.is("it wishes, zone 1 wakes", x.count(12), 4);
        Due.is("but none goes yet", x.count(11), 0);
        x.step(1);
        Due.is("jammed again", x.count(11), 1);
    }

    private static void ticketsForGood() {
        Due.sentence("each that WISHES and has TICKET 0 takes the next TICKET (1, 2, .. for good).");
        ZoneBelt x = Due.told("Z21100c00c01c02");
        x.turn();
        x.step(1);
        Due.all("line 0 first", Due.zones(x, 6), 1, 0, 2);
        x.step(7);
        Due.all("those that have one keep it", Due.zones(x, 6), 1, 0, 2);
        x.turn();
        x.step(2);
        Due.all("that of 1 went", Due.zones(x, 0), NONE, 1, 3);
        Due.all("its ticket is gone", Due.zones(x, 6), 0, 0, 2);
        x.feed(0);
        x.step(1);
        Due.all("no number is taken twice", Due.zones(x, 6), 3, 0, 2);
        x.lift(2);
        x.lift(0);
        x.feed(1);
        x.feed(0);
        x.step(1);
        Due.all("those of cartons lifted stay", Due.zones(x, 6), 3, 0, 0);
        Due.is("and count", x.zone(1, 0), 5);
    }

    private static void ticketWithoutLine1() {
        Due.sentence("J less 1 takes a TICKET also where S is 0.");
        for (int j = 1; j <= 7; j++) {
            ZoneBelt x = Due.told("Z80" + j + "00c00c01c02c03c04c05c06c07");
            x.turn();
            x.step(1);
            for (int zone = 0; zone < 8; zone++) {
                Due.is("ticket of " + zone + " by J " + j, x.zone(zone, 6), zone == j - 1 ? 1 : 0);
            }
        }
        Due.sentence("J less 1 alone FEEDS J by LINE 0.");
        ZoneBelt y = Due.told("Z31200c00c01c02c03");
        y.turn();
        y.step(1);
        Due.all("zone 1 and zone 3 alone", Due.zones(y, 6), 0, 1, 0, 2);
    }

    private static void lastOneOfLine0() {
        Due.sentence("GOES: the last ZONE of LINE 0, if it WISHES and THE EXIT is open.");
        ZoneBelt x = Due.told("Z82100c07c09");
        Due.is("open", x.step(1), 1);
        x = Due.told("Z82100c07");
        x.turn();
        Due.is("shut", x.step(50), 0);
        x.eye(7, 1);
        x.turn();
        Due.is("open, but dark", x.step(50), 0);
        x.eye(7, 0);
        Due.is("open and seen", x.step(1), 1);
    }

    private static void meetingAtTheExit() {
        Due.sentence("behind the last one of LINE 0 THE EXIT");
        ZoneBelt x = Due.told("Z21110c01c02c00");
        Due.is("zone 1 is J and the last one", x.step(1), 1);
        Due.all("line 0 goes first", Due.zones(x, 0), NONE, 3, 2);
        Due.is("out", x.step(1), 1);
        Due.all("then line 1", Due.zones(x, 0), NONE, 2, NONE);
        Due.is("out", x.step(1), 1);
    }

    private static void mayGo() {
        Due.sentence("Any other ZONE that WISHES MAY GO, if the ZONE behind it was not ASLEEP, and does not SEE, or TRAIN is 1 "
            + "and that one GOES; if that was ASLEEP, it wakes.");
        ZoneBelt singly = Due.told("Z30100c00c01c02");
        singly.step(1);
        Due.all("singly only the first goes", Due.zones(singly, 0), 1, 2, NONE);
        ZoneBelt train = Due.told("Z30110c00c01c02");
        train.step(1);
        Due.all("as a train all go", Due.zones(train, 0), NONE, 1, 2);
        ZoneBelt shut = Due.told("Z40110c00c01c03");
        shut.turn();
        shut.step(1);
        Due.all("into one that does not see", Due.zones(shut, 0), NONE, 1, 2, 3);
        shut.step(1);
        Due.all("not into one that sees and does not go", Due.zones(shut, 0), NONE, 1, 2, 3);
        ZoneBelt light = Due.told("Z30100c00");
        light.eye(1, 2);
        light.step(9);
        Due.is("singly not into a light one", light.zone(0, 0), 1);
    }

    private static void mayNotGoIntoOneAsleep() {
        Due.sentence("a ZONE that wakes because one that WISHES would hand it a CARTON is awake from the next STEP on (IDLE of "
            + "it is 0 only by what is SEEN).");
        ZoneBelt x = Due.told("Z30101c01");
        x.eye(1, 1);
        x.eye(0, 2);
        x.step(1);
        Due.is("zone 2 alone sleeps", x.count(12), 4);
        Due.all("idle", Due.zones(x, 5), 0, 0, 1);
        x.eye(1, 0);
        x.eye(0, 0);
        x.step(1);
        Due.is("zone 2 wakes, zone 0 sleeps", x.count(12), 1);
        Due.is("but the carton waits", x.zone(1, 0), 1);
        Due.all("idle by what is seen", Due.zones(x, 5), 1, 0, 0);
        x.step(1);
        Due.is("it goes", x.zone(2, 0), 1);
        Due.is("zone 1 sleeps", x.count(12), 3);
    }

    private static void bothWakeTheMeeting() {
        Due.sentence("if that was ASLEEP, it wakes. It GOES, if it MAY; but of two that FEED J and MAY both that of the lesser "
            + "TICKET alone.");
        ZoneBelt x = Due.told("Z31101c00c03");
        x.eye(0, 1);
        x.eye(3, 1);
        x.step(1);
        Due.is("all asleep", x.count(12), 15);
        x.eye(0, 0);
        x.eye(3, 0);
        x.step(1);
        Due.is("those that see wake", x.count(12), 6);
        Due.all("no tickets", Due.zones(x, 6), 0, 0, 0, 0);
        x.step(1);
        Due.is("J wakes", x.count(12), 4);
        Due.all("tickets", Due.zones(x, 6), 1, 0, 0, 2);
        Due.all("none goes yet", Due.zones(x, 0), 1, NONE, NONE, 2);
        x.step(1);
        Due.all("the lesser ticket", Due.zones(x, 0), NONE, 1, NONE, 2);
    }

    private static void lesserTicketAlone() {
        Due.sentence("of two that FEED J and MAY both that of the lesser TICKET alone. (So it is settled from THE EXIT "
            + "backwards.)");
        ZoneBelt x = Due.told("Z21110c01c02");
        x.turn();
        x.step(1);
        x.feed(0);
        x.step(1);
        Due.all("line 1 came first", Due.zones(x, 6), 2, 0, 1);
        x.turn();
        Due.is("zone 1 goes out", x.step(1), 1);
        Due.all("line 1 alone goes on", Due.zones(x, 0), 3, 2, NONE);
        Due.all("the other keeps its ticket", Due.zones(x, 6), 2, 0, 0);
        x.feed(1);
        x.step(1);
        Due.all("now the other", Due.zones(x, 0), NONE, 3, 4);
        Due.all("tickets", Due.zones(x, 6), 0, 0, 3);
    }

    private static void oneThatMayAlone() {
        Due.sentence("Of two that FEED J one that MAY alone GOES, whatever TICKET the other one has.");
        ZoneBelt x = Due.told("Z21100c00c01c02");
        x.turn();
        x.step(1);
        x.eye(0, 1);
        Due.all("line 0 has the lesser ticket", Due.zones(x, 6), 1, 0, 2);
        x.turn();
        x.step(2);
        Due.all("but sees nothing", Due.zones(x, 0), 1, 3, NONE);
        Due.all("its ticket stays", Due.zones(x, 6), 1, 0, 0);
    }

    private static void lightOnesGo() {
        Due.sentence("A ZONE that SEES and is not JAMMED though it has no CARTON (LIGHT) WISHES, and by TRAIN 1 counts as one "
            + "that GOES, if it does.");
        ZoneBelt x = Due.told("Z30110c00");
        x.eye(1, 2);
        x.eye(2, 2);
        x.turn();
        x.step(3);
        Due.is("they do not go by an exit shut", x.zone(0, 0), 1);
        x.turn();
        Due.is("nothing goes out", x.step(1), 0);
        Due.is("but zone 0 goes behind them", x.zone(1, 0), 1);
        ZoneBelt asleep = Due.told("Z30101");
        asleep.step(1);
        asleep.eye(0, 2);
        asleep.step(2);
        Due.is("a light one wakes, and wakes the next", asleep.count(12), 4);
    }

    private static void lightOnesLoseTheirTickets() {
        Due.sentence("A ZONE that GOES because its EYE is LIGHT loses its TICKET, though nothing moves.");
        ZoneBelt x = Due.told("Z31100c01");
        x.eye(0, 2);
        x.turn();
        x.step(1);
        Due.is("it waits with a ticket", x.zone(0, 6), 1);
        x.step(1);
        Due.is("it went", x.zone(0, 6), 0);
        Due.all("nothing moved into zone 1", Due.zones(x, 0), NONE, NONE, 1, NONE);
        x.feed(1);
        x.step(1);
        // ticket 2 for the light one, that goes; 3 for line 1, that waits for it
        Due.all("line 1 waits", Due.zones(x, 6), 0, 0, 0, 3);
        x.step(1);
        Due.all("and goes by the lesser ticket", Due.zones(x, 0), NONE, 2, 1, NONE);
        Due.is("the light one waits", x.zone(0, 6), 4);
    }

    private static void trains() {
        Due.sentence("By TRAIN 1 a row of ZONES that all GO moves on at once.");
        ZoneBelt x = Due.told("Z80110c00c01c02c03c04c05c06c07");
        Due.is("all eight", x.step(1), 1);
        Due.all("one on", Due.zones(x, 0), NONE, 1, 2, 3, 4, 5, 6, 7);
        Due.is("seven steps more", x.step(7), 7);
        ZoneBelt line1 = Due.told("Z24110c02c03c04c05");
        line1.step(1);
        Due.all("line 1 too, into J", Due.zones(line1, 0), NONE, 4, NONE, 1, 2, 3);
        Due.is("out", line1.step(4), 4);
    }

    private static void roomByNow() {
        Due.sentence("a ZONE that GOES and has a CARTON: if it comes to THE EXIT, it is OUT; if the ZONE behind it has none (by "
            + "now), it is there; else the ZONE that GOES is JAMMED, and the CARTON stays. (Without a CARTON nothing moves.) "
            + "TICKET of each that GOES is 0.");
        ZoneBelt x = Due.told("Z30100c00c01");
        x.eye(1, 1);
        x.step(1);
        Due.all("jammed", Due.zones(x, 3), 1, 0, 0);
        Due.all("cartons stay", Due.zones(x, 0), 1, 2, NONE);
        Due.is("its ticket is 0", x.zone(0, 6), 0);
        ZoneBelt dark = Due.told("Z30100c00");
        dark.eye(1, 1);
        dark.step(1);
        Due.all("a dark one without a carton takes it", Due.zones(dark, 0), NONE, 1, NONE);
        Due.is("no jam", dark.count(11), 0);
        dark.step(9);
        Due.is("and holds it", dark.zone(1, 0), 1);
    }

    private static void jamsInARow() {
        Due.sentence("MOVES: from THE EXIT backwards");
        ZoneBelt x = Due.told("Z60110c00c01c02c03");
        x.eye(3, 1);
        x.step(1);
        Due.all("each finds the next one's carton still there", Due.zones(x, 3), 1, 1, 1, 0, 0, 0);
        Due.all("cartons stay", Due.zones(x, 0), 1, 2, 3, 4, NONE, NONE);
        Due.is("three are left", x.clear(2), 2);
        x.lift(3);
        x.step(1);
        Due.all("the cleared one goes", Due.zones(x, 0), 1, 2, NONE, 3, NONE, NONE);
        Due.is("two are jammed", x.count(11), 3);
    }

    private static void line1ComesLast() {
        Due.sentence("(LINE 0 from its last ZONE on, then LINE 1 likewise; so the one of LINE 1 that FEEDS J comes behind all of "
            + "LINE 0)");
        ZoneBelt x = Due.told("Z42110c03c02c01c05c04");
        x.eye(0, 1);
        Due.is("zone 3 goes out", x.step(1), 1);
        Due.all("line 0 makes room, then line 1 follows", Due.zones(x, 0), NONE, 4, 3, 2, NONE, 5);
        Due.is("no jam", x.count(11), 0);
    }

    private static void idleAndRest() {
        Due.sentence("IDLE of a ZONE: if by what they SEE then neither it nor any that FEEDS it SEES: one more, and if it is "
            + "REST or more then, and REST is more than 0, the ZONE is ASLEEP");
        for (int rest = 1; rest <= 9; rest++) {
            ZoneBelt x = Due.told("Z2110" + rest);
            if (rest > 1) {
                x.step(rest - 1);
            }
            Due.is("not yet by " + rest, x.count(12), 0);
            Due.all("idle", Due.zones(x, 5), rest - 1, rest - 1, rest - 1);
            x.step(1);
            Due.is("asleep by " + rest, x.count(12), 7);
            Due.all("idle", Due.zones(x, 5), rest, rest, rest);
        }
        ZoneBelt y = Due.told("Z40100c01");
        y.step(1);
        // by what they see then: the carton is in zone 2, so zones 2 and 3 are not idle, and zone 1 is
        Due.all("by what they see then", Due.zones(y, 5), 1, 1, 0, 0);
    }

    private static void idleGoesOn() {
        Due.sentence("one more, and if it is REST or more then");
        ZoneBelt x = Due.told("Z20103");
        x.step(99);
        Due.all("idle goes on asleep", Due.zones(x, 5), 99, 99);
        x.step(99);
        Due.all("idle goes on asleep", Due.zones(x, 5), 198, 198);
    }

    private static void idleStaysAsItIs() {
        Due.sentence("LIFTED, EYED leave IDLE, TICKET.");
        ZoneBelt x = Due.told("Z21100c00c01c02");
        x.turn();
        x.step(3);
        Due.all("tickets", Due.zones(x, 6), 1, 0, 2);
        x.lift(0);
        x.eye(2, 2);
        Due.all("tickets stay", Due.zones(x, 6), 1, 0, 2);
        x.lift(1);
        x.lift(2);
        x.eye(2, 0);
        x.step(4);
        Due.all("idle", Due.zones(x, 5), 4, 4, 4);
        x.eye(0, 2);
        x.eye(1, 1);
        x.eye(2, 0);
        Due.all("idle stays by eyes", Due.zones(x, 5), 4, 4, 4);
        x.eye(0, 0);
        x.feed(0);
        x.feed(1);
        Due.all("idle stays by feeds", Due.zones(x, 5), 4, 4, 4);
        x.lift(0);
        Due.all("idle stays by lifts", Due.zones(x, 5), 4, 4, 4);
        Due.all("tickets stay", Due.zones(x, 6), 1, 0, 2);
        Due.is("none asleep by all that", x.count(12), 0);
    }

    private static void restNought() {
        Due.sentence("and REST is more than 0, the ZONE is ASLEEP");
        ZoneBelt x = Due.told("Z20100");
        x.step(99);
        Due.is("none asleep", x.count(12), 0);
        x.make(1, 9);
        Due.is("told anew is no step", x.count(12), 0);
        x.make(1, 0);
        x.step(1);
        Due.is("none asleep", x.count(12), 0);
    }

    private static void restToldAnew() {
        Due.sentence("if it is REST or more then");
        ZoneBelt x = Due.told("Z20109");
        x.step(5);
        x.make(1, 7);
        x.step(1);
        Due.is("six are fewer than seven", x.count(12), 0);
        x.make(1, 3);
        x.step(1);
        Due.is("seven are more than three", x.count(12), 3);
        x.make(1, 9);
        x.step(1);
        Due.is("they stay so", x.count(12), 3);
    }

    private static void theClock() {
        Due.sentence("THE CLOCK (0 at first) is one more.");
        ZoneBelt x = new ZoneBelt();
        Due.is("at first", x.count(7), 0);
        x.turn();
        x.feed(0);
        x.eye(0, 1);
        Due.is("other acts are no steps", x.count(7), 0);
        x.step(1);
        Due.is("one", x.count(7), 1);
        x.ahead(50, 0, 0);
        x.drawn(9);
        x.judge(1, 150L);
        Due.is("asked ones are none", x.count(7), 1);
        for (int i = 0; i < 200; i++) {
            x.step(99);
        }
        Due.is("far on", x.count(7), 19801);
    }
}
