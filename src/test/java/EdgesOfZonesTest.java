/** Each sentence about ZONES, LINES, EYES, sets and counts that names an edge: promises 1, 6 and 28. */
public final class EdgesOfZonesTest {
    private static final int NONE = ZoneBelt.NONE;
    private static final int UNKNOWN = ZoneBelt.UNKNOWN;
    private static final int OUTSIDE = ZoneBelt.OUTSIDE;

    public static void main(String[] args) {
        atFirst();
        zonesThatThereAre();
        entries();
        whatComesBehind();
        whatFeedsTheMeeting();
        whatFeedsByIdle();
        whatEyesSee();
        neitherJammedNorAsleep();
        zoneTells();
        zoneRefused();
        setsAsBits();
        countTells();
        countRefused();
        Due.end("EdgesOfZonesTest");
    }

    /** Calls f for all belts that can be told without cartons, as their heads. */
    private interface Head {
        void is(int m, int s, int j);
    }

    private static void eachHead(Head head) {
        for (int m = 2; m <= 8; m++) {
            for (int s = 0; s <= 4; s++) {
                for (int j = 1; j < m; j++) {
                    head.is(m, s, j);
                }
            }
        }
    }

    private static String two(int zone) {
        return (zone < 10 ? "0" : "") + zone;
    }

    private static void atFirst() {
        Due.sentence("Two zones, no cartons.");
        ZoneBelt x = new ZoneBelt();
        Due.is("the second zone", x.zone(1, 0), NONE);
        Due.is("no third zone", x.zone(2, 0), UNKNOWN);
        Due.is("no line 1", x.feed(1), UNKNOWN);
        Due.all("counts", Due.counts(x), 0, 2, 0, 1, 0, 0, 1, 0, 0, 0, 0, 0, 0, 0, 0);
        Due.is("seed", x.seed(0), 0);
        Due.is("all is out", x.ask(0), 0);
        Due.is("zones that could be dark", x.which(), 3);
        Due.is("no act", x.undo(), ZoneBelt.STATE);
        Due.is("an empty text", x.wipe(), 0);
        Due.is("the first carton", x.feed(0), 1);
    }

    private static void zonesThatThereAre() {
        Due.sentence("ZONES 0 to M less 1 are LINE 0 (M 2 to 8; 2 at first), ZONES M to M and S less 1 are LINE 1 "
            + "(S 0 to 4; 0 at first).");
        eachHead((m, s, j) -> {
            ZoneBelt x = Due.told("Z" + m + s + j + "00");
            int last = m + s - 1;
            for (int zone : new int[] {0, m - 1, last}) {
                Due.is("zone", x.zone(zone, 1), 0);
                Due.is("ahead", x.ahead(0, zone, 1), 0);
                Due.is("lift", x.lift(zone), ZoneBelt.STATE);
                Due.is("clear", x.clear(zone), ZoneBelt.STATE);
                Due.is("share", x.share(zone, true), ZoneBelt.STATE);
                Due.is("eye", x.eye(zone, 0), 0);
            }
            for (int zone : new int[] {-1, last + 1, 12, 32, last + 32, Integer.MIN_VALUE, Integer.MAX_VALUE}) {
                Due.is("no zone", x.zone(zone, 1), UNKNOWN);
                Due.is("no ahead", x.ahead(0, zone, 1), UNKNOWN);
                Due.is("no lift", x.lift(zone), UNKNOWN);
                Due.is("no clear", x.clear(zone), UNKNOWN);
                Due.is("no share", x.share(zone, true), UNKNOWN);
                Due.is("no eye", x.eye(zone, 0), UNKNOWN);
            }
        });
    }

    private static void entries() {
        Due.sentence("The first ZONE of a LINE is its ENTRY.");
        eachHead((m, s, j) -> {
            ZoneBelt x = Due.told("Z" + m + s + j + "00");
            Due.is("feed(0)", x.feed(0), 1);
            Due.is("zone 0", x.zone(0, 0), 1);
            Due.is("feed(1)", x.feed(1), s > 0 ? 2 : UNKNOWN);
            Due.is("zones with cartons", x.count(10), s > 0 ? 1 | 1 << m : 1);
        });
    }

    private static void whatComesBehind() {
        Due.sentence("Behind a ZONE comes the next one of its LINE; behind the last one of LINE 0 THE EXIT, behind the "
            + "last one of LINE 1 ZONE J");
        eachHead((m, s, j) -> {
            for (int zone = 0; zone < m + s; zone++) {
                ZoneBelt x = Due.told("Z" + m + s + j + "00c" + two(zone));
                boolean leaves = zone == m - 1;
                int behind = zone == m + s - 1 ? j : zone + 1;
                Due.is("step", x.step(1), leaves ? 1 : 0);
                Due.is("it is there", x.count(10), leaves ? 0 : 1 << behind);
                Due.is("out in all", x.count(9), leaves ? 1 : 0);
            }
        });
    }

    private static void whatFeedsTheMeeting() {
        Due.sentence("TICKETS: of those that FEED J (that of LINE 0 first) each that WISHES and has TICKET 0 takes the next");
        eachHead((m, s, j) -> {
            ZoneBelt x = Due.told("Z" + m + s + j + "00");
            x.turn();
            for (int zone = 0; zone < m + s; zone++) {
                x.eye(zone, 2);
            }
            // all see, so none may go, and all that feed J keep what they took
            x.step(2);
            for (int zone = 0; zone < m + s; zone++) {
                Due.is("ticket of " + zone, x.zone(zone, 6), zone == j - 1 ? 1 : s > 0 && zone == m + s - 1 ? 2 : 0);
            }
        });
    }

    private static void whatFeedsByIdle() {
        Due.sentence("The ZONES behind which a ZONE comes FEED it.");
        eachHead((m, s, j) -> {
            for (int lit = 0; lit < m + s; lit++) {
                ZoneBelt x = Due.told("Z" + m + s + j + "00");
                x.eye(lit, 2);
                x.step(1);
                int behind = lit == m - 1 ? -1 : lit == m + s - 1 ? j : lit + 1;
                for (int zone = 0; zone < m + s; zone++) {
                    Due.is("idle of " + zone, x.zone(zone, 5), zone == lit || zone == behind ? 0 : 1);
                }
            }
        });
    }

    private static void whatEyesSee() {
        Due.sentence("Its EYE is SOUND (0), DARK (1) or LIGHT (2); it SEES: if SOUND, whether there is a CARTON; DARK ones "
            + "never SEE, LIGHT ones always.");
        ZoneBelt x = Due.told("Z84100c11c00");
        for (int zone : new int[] {0, 1, 11}) {
            int carton = zone == 1 ? 0 : 1;
            for (int eye = 0; eye <= 2; eye++) {
                x.eye(zone, eye);
                Due.is("eye", x.zone(zone, 1), eye);
                Due.is("sees", x.zone(zone, 2), eye == 0 ? carton : eye - 1);
                Due.is("carton", x.zone(zone, 0), zone == 1 ? NONE : zone == 0 ? 2 : 1);
            }
        }
    }

    private static void neitherJammedNorAsleep() {
        Due.sentence("A ZONE may be JAMMED, ASLEEP (neither at first); it has an IDLE (0 at first) and a TICKET (0, none, at "
            + "first). THE EXIT is open (at first) or shut. There is TRAIN (0 or 1; 0 at first) and REST (0 to 9; 0 at first).");
        ZoneBelt x = new ZoneBelt();
        for (int what = 1; what <= 6; what++) {
            Due.all("at first, " + what, Due.zones(x, what), 0, 0);
        }
        Due.is("open", x.count(6), 1);
        Due.is("train", x.count(4), 0);
        Due.is("rest", x.count(5), 0);
        x.step(99);
        Due.is("none asleep by rest 0", x.count(12), 0);
    }

    private static void zoneTells() {
        Due.sentence("Of a ZONE its CARTON (what = 0; NONE), EYE (1), whether it SEES: 1, 0 (2), is JAMMED (3), ASLEEP (4), "
            + "its IDLE (5), TICKET (6). UNKNOWN; OUTSIDE.");
        ZoneBelt x = Due.told("Z42105c05c02");
        x.eye(5, 1);
        x.eye(2, 1);
        x.feed(0);
        x.step(5);
        // carton 3 came to zone 1 and jammed there against carton 2, unseen; all else was idle, zones 2 not, by zone 1
        Due.all("cartons", Due.zones(x, 0), NONE, 3, 2, NONE, NONE, 1);
        Due.all("eyes", Due.zones(x, 1), 0, 0, 1, 0, 0, 1);
        Due.all("sees", Due.zones(x, 2), 0, 1, 0, 0, 0, 0);
        Due.all("jammed", Due.zones(x, 3), 0, 1, 0, 0, 0, 0);
        Due.all("asleep", Due.zones(x, 4), 1, 0, 0, 1, 1, 1);
        Due.all("idle", Due.zones(x, 5), 5, 0, 0, 5, 5, 5);
        Due.all("tickets", Due.zones(x, 6), 0, 0, 0, 0, 0, 0);
        x.turn();
        x.feed(0);
        x.step(1);
        Due.is("it wakes only", x.zone(0, 6), 0);
        x.step(1);
        Due.is("the second ticket", x.zone(0, 6), 2);
    }

    private static void zoneRefused() {
        Due.sentence("of several the first that a call names (in just that row): UNKNOWN (there is no such ZONE, LINE, place "
            + "to keep in), OUTSIDE (another number is not as told), STATE (as told), FULL (as told).");
        ZoneBelt x = Due.told("Z84100c11");
        for (int what : new int[] {-1, 7, Integer.MIN_VALUE, Integer.MAX_VALUE}) {
            Due.is("zone(11, " + what + ")", x.zone(11, what), OUTSIDE);
            Due.is("zone(12, " + what + ")", x.zone(12, what), UNKNOWN);
            Due.is("zone(-1, " + what + ")", x.zone(-1, what), UNKNOWN);
        }
        Due.is("zone(11, 0)", x.zone(11, 0), 1);
        Due.is("zone(11, 6)", x.zone(11, 6), 0);
        Due.is("eye(12, 3)", x.eye(12, 3), UNKNOWN);
        Due.is("eye(11, 3)", x.eye(11, 3), OUTSIDE);
        Due.is("ahead(100, 12, 7)", x.ahead(100, 12, 7), UNKNOWN);
        Due.is("ahead(100, 11, 7)", x.ahead(100, 11, 7), OUTSIDE);
    }

    private static void setsAsBits() {
        Due.sentence("Sets are told as bits.");
        ZoneBelt x = Due.told("Z84101c11c00c07");
        Due.is("cartons of 0, 7, 11", x.count(10), 1 | 1 << 7 | 1 << 11);
        Due.is("all twelve could be dark", x.which(), 4095);
        x.lift(11);
        x.lift(0);
        x.lift(7);
        Due.is("no cartons", x.count(10), 0);
        x.step(1);
        Due.is("all twelve asleep", x.count(12), 4095);
        ZoneBelt y = Due.told("Z84100c11c01");
        y.eye(1, 1);
        y.step(1);
        Due.is("zone 11 jammed", y.count(11), 1 << 11);
        y.eye(11, 2);
        Due.is("ten could be dark", y.which(), 4095 - 2 - 2048);
    }

    private static void countTells() {
        Due.sentence("0 letters of THE TEXT, 1 M, 2 S, 3 J, 4 TRAIN, 5 REST, 6 whether THE EXIT is open: 1, 0, 7 THE CLOCK, "
            + "8 how many were FED, 9 OUT in all, 10 ZONES that have CARTONS (bits), 11 that are JAMMED (bits), 12 ASLEEP "
            + "(bits), 13 ACTS in the row, 14 SEEN. OUTSIDE.");
        ZoneBelt x = Due.told("Z43314c02c03c04c06");
        x.eye(2, 1);
        x.step(7);
        // carton 2 out of zone 3; 4 from zone 6 to 3 and out; 3 from zone 4 behind it; carton 1 is unseen in zone 2
        x.feed(1);
        x.turn();
        x.see(0, 0, 0);
        x.see(0, 0, 0);
        Due.is("letters", x.count(0), 18);
        Due.is("M", x.count(1), 4);
        Due.is("S", x.count(2), 3);
        Due.is("J", x.count(3), 3);
        Due.is("TRAIN", x.count(4), 1);
        Due.is("REST", x.count(5), 4);
        Due.is("shut", x.count(6), 0);
        Due.is("clock", x.count(7), 7);
        Due.is("fed", x.count(8), 5);
        Due.is("out", x.count(9), 3);
        Due.is("cartons", x.count(10), 1 << 2 | 1 << 4);
        Due.is("jammed", x.count(11), 0);
        Due.is("asleep: all but 3, by which carton 3 came last", x.count(12) & 7, 7);
        Due.is("acts", x.count(13), 4);
        Due.is("seen", x.count(14), 2);
    }

    private static void countRefused() {
        Due.sentence("ASLEEP (bits), 13 ACTS in the row, 14 SEEN. OUTSIDE.");
        ZoneBelt x = new ZoneBelt();
        for (int what : new int[] {-1, 15, 16, 32, Integer.MIN_VALUE, Integer.MAX_VALUE}) {
            Due.is("count(" + what + ")", x.count(what), OUTSIDE);
        }
        Due.is("count(0)", x.count(0), 0);
        Due.is("count(14)", x.count(14), 0);
    }
}
