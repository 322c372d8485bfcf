/** Each sentence about ACTS that names an edge: promises 7 to 12 and 14. */
public final class EdgesOfActsTest {
    private static final int NONE = ZoneBelt.NONE;
    private static final int UNKNOWN = ZoneBelt.UNKNOWN;
    private static final int OUTSIDE = ZoneBelt.OUTSIDE;
    private static final int STATE = ZoneBelt.STATE;

    public static void main(String[] args) {
        linesToFeed();
        entriesThatHaveOne();
        eyesOfEntries();
        fedNinetyNine();
        ninetyNineUndone();
        ninetyNineOnBothLines();
        lifted();
        liftedOutOfAJam();
        turned();
        eyed();
        made();
        cleared();
        clearedDoesNotMove();
        neverMoreThan14();
        roundAndRound();
        eachThatIsNotRefused();
        undoneEach();
        undoneLeaves();
        nothingToUndo();
        fiveHundredAndTwelve();
        Due.end("EdgesOfActsTest");
    }

    private static void linesToFeed() {
        Due.sentence("UNKNOWN: line (0; 1, if S is more than 0); STATE: the ENTRY has one; FULL: 99 were.");
        ZoneBelt alone = Due.told("Z80100");
        ZoneBelt both = Due.told("Z81100");
        for (int line : new int[] {-1, 2, Integer.MIN_VALUE, Integer.MAX_VALUE}) {
            Due.is("feed(" + line + ")", alone.feed(line), UNKNOWN);
            Due.is("feed(" + line + ")", both.feed(line), UNKNOWN);
        }
        Due.is("no line 1", alone.feed(1), UNKNOWN);
        Due.is("line 1 of one zone", both.feed(1), 1);
        Due.is("it is there", both.zone(8, 0), 1);
        Due.is("line 0", both.feed(0), 2);
    }

    private static void entriesThatHaveOne() {
        Due.sentence("STATE: the ENTRY has one");
        ZoneBelt x = Due.told("Z21100c00");
        Due.is("line 0 has one", x.feed(0), STATE);
        Due.is("line 1 has none", x.feed(1), 2);
        Due.is("line 1 has one", x.feed(1), STATE);
        x.step(1);
        Due.is("line 1 still has it", x.feed(1), STATE);
        Due.is("line 0 handed it on", x.feed(0), 3);
        Due.is("fed", x.count(8), 3);
    }

    private static void eyesOfEntries() {
        Due.sentence("FED: the EYE of the ENTRY does not matter.");
        for (int eye = 0; eye <= 2; eye++) {
            ZoneBelt x = Due.told("Z22100");
            x.eye(0, eye);
            x.eye(2, eye);
            Due.is("feed(0)", x.feed(0), 1);
            Due.is("feed(1)", x.feed(1), 2);
            Due.is("feed(0) again", x.feed(0), STATE);
            Due.is("feed(1) again", x.feed(1), STATE);
        }
        ZoneBelt asleep = Due.told("Z20101");
        asleep.step(1);
        Due.is("an entry asleep", asleep.feed(0), 1);
        Due.is("sleeps on", asleep.count(12), 3);
    }

    /** Feeds line 0 of two zones till so many were fed; all but the last one are out. */
    private static ZoneBelt fed(int howMany) {
        ZoneBelt x = new ZoneBelt();
        for (int i = 1; i <= howMany; i++) {
            Due.is("feed(0)", x.feed(0), i);
            if (i < howMany) {
                Due.is("step(2)", x.step(2), 1);
            }
        }
        return x;
    }

    private static void fedNinetyNine() {
        Due.sentence("FULL: 99 were.");
        ZoneBelt x = fed(99);
        Due.is("STATE comes first", x.feed(0), STATE);
        x.step(2);
        Due.is("99 were", x.feed(0), ZoneBelt.FULL);
        Due.is("UNKNOWN comes first", x.feed(1), UNKNOWN);
        Due.is("UNKNOWN comes first", x.feed(2), UNKNOWN);
        Due.is("fed", x.count(8), 99);
        Due.is("none came in", x.count(10), 0);
        ZoneBelt less = fed(98);
        less.step(2);
        Due.is("the 99th", less.feed(0), 99);
        less.lift(0);
        Due.is("lifted ones count", less.feed(0), ZoneBelt.FULL);
    }

    private static void ninetyNineUndone() {
        Due.sentence("FED: the number of the CARTON.");
        ZoneBelt x = fed(99);
        Due.is("undo", x.undo(), 13);
        Due.is("fed", x.count(8), 98);
        Due.is("none there", x.zone(0, 0), NONE);
        Due.is("the 99th again", x.feed(0), 99);
    }

    private static void ninetyNineOnBothLines() {
        Due.sentence("(and fewer than 99 were ever)");
        ZoneBelt x = Due.told("Z21100");
        for (int i = 1; i <= 97; i += 2) {
            Due.is("feed(0)", x.feed(0), i);
            Due.is("feed(1)", x.feed(1), i + 1);
            x.step(5);
        }
        Due.is("fed", x.count(8), 98);
        Due.is("the 99th, line 1", x.feed(1), 99);
        Due.is("none more, line 0", x.feed(0), ZoneBelt.FULL);
        Due.is("STATE comes first", x.feed(1), STATE);
    }

    private static void lifted() {
        Due.sentence("LIFTED: the number of the CARTON. UNKNOWN; STATE: there is none.");
        ZoneBelt x = Due.told("Z84100c11c00");
        Due.is("lift(11)", x.lift(11), 1);
        Due.is("lift(11) again", x.lift(11), STATE);
        Due.is("lift(12)", x.lift(12), UNKNOWN);
        Due.is("lift(-1)", x.lift(-1), UNKNOWN);
        Due.is("lift(0)", x.lift(0), 2);
        Due.is("lift(1)", x.lift(1), STATE);
        Due.is("not out", x.count(9), 0);
        Due.is("fed all the same", x.count(8), 2);
        x.eye(3, 2);
        Due.is("a light eye is no carton", x.lift(3), STATE);
    }

    private static void liftedOutOfAJam() {
        Due.sentence("LIFTED: the CARTON of a ZONE is gone (not OUT), the ZONE is not JAMMED.");
        ZoneBelt x = Due.told("Z84110c01c00c11");
        x.eye(1, 1);
        x.step(2);
        Due.is("zones 0 and 11 are jammed", x.count(11), 1 | 1 << 11);
        Due.is("lift(11)", x.lift(11), 3);
        Due.is("zone 0 alone", x.count(11), 1);
        Due.is("lift(1) clears none", x.lift(1), 1);
        Due.is("zone 0 alone", x.count(11), 1);
        Due.is("lift(0)", x.lift(0), 2);
        Due.is("none", x.count(11), 0);
        Due.is("clear(0)", x.clear(0), STATE);
    }

    private static void turned() {
        Due.sentence("TURNED: 1 if THE EXIT is open then, 0.");
        ZoneBelt x = Due.told("Z20100c01");
        for (int i = 0; i < 3; i++) {
            Due.is("shut", x.turn(), 0);
            Due.is("shut", x.count(6), 0);
            Due.is("open", x.turn(), 1);
            Due.is("open", x.count(6), 1);
        }
        Due.is("six acts", x.count(13), 6);
    }

    private static void eyed() {
        Due.sentence("EYED: what it was. UNKNOWN; OUTSIDE: eye (0 to 2).");
        ZoneBelt x = Due.told("Z84100");
        Due.is("eye(11, 2)", x.eye(11, 2), 0);
        Due.is("eye(11, 1)", x.eye(11, 1), 2);
        Due.is("eye(11, 1)", x.eye(11, 1), 1);
        Due.is("eye(11, 0)", x.eye(11, 0), 1);
        for (int eye : new int[] {-1, 3, Integer.MIN_VALUE, Integer.MAX_VALUE}) {
            Due.is("eye(11, " + eye + ")", x.eye(11, eye), OUTSIDE);
            Due.is("eye(12, " + eye + ")", x.eye(12, eye), UNKNOWN);
        }
        Due.is("eye(12, 0)", x.eye(12, 0), UNKNOWN);
        Due.is("eye(-1, 0)", x.eye(-1, 0), UNKNOWN);
        Due.is("as it was", x.zone(11, 1), 0);
    }

    private static void made() {
        Due.sentence("MADE: TRAIN (what = 0), REST (1) is v: what it was. OUTSIDE: what, v (0, 1; 0 to 9).");
        ZoneBelt x = new ZoneBelt();
        Due.is("make(0, 1)", x.make(0, 1), 0);
        Due.is("make(1, 9)", x.make(1, 9), 0);
        for (int v : new int[] {-1, 2, 9, Integer.MIN_VALUE, Integer.MAX_VALUE}) {
            Due.is("make(0, " + v + ")", x.make(0, v), OUTSIDE);
        }
        for (int v : new int[] {-1, 10, Integer.MIN_VALUE, Integer.MAX_VALUE}) {
            Due.is("make(1, " + v + ")", x.make(1, v), OUTSIDE);
        }
        for (int what : new int[] {-1, 2, Integer.MIN_VALUE, Integer.MAX_VALUE}) {
            Due.is("make(" + what + ", 0)", x.make(what, 0), OUTSIDE);
        }
        Due.is("make(0, 0)", x.make(0, 0), 1);
        Due.is("make(1, 0)", x.make(1, 0), 9);
        Due.is("make(1, 0)", x.make(1, 0), 0);
    }

    private static void cleared() {
        Due.sentence("CLEARED: how many ZONES are JAMMED then. UNKNOWN; STATE: it is not JAMMED.");
        ZoneBelt x = Due.told("Z84110c03c02c01c00c11");
        x.eye(3, 1);
        x.eye(1, 0);
        x.step(1);
        // zones 0, 1 and 2 as a train into the one unseen; zone 11 had the greater ticket
        Due.is("jammed", x.count(11), 7);
        Due.is("clear(12)", x.clear(12), UNKNOWN);
        Due.is("clear(-1)", x.clear(-1), UNKNOWN);
        Due.is("clear(3)", x.clear(3), STATE);
        Due.is("clear(11)", x.clear(11), STATE);
        Due.is("clear(1)", x.clear(1), 2);
        Due.is("clear(1) again", x.clear(1), STATE);
        Due.is("clear(2)", x.clear(2), 1);
        Due.is("clear(0)", x.clear(0), 0);
        Due.is("clear(0) again", x.clear(0), STATE);
    }

    private static void clearedDoesNotMove() {
        Due.sentence("CLEARED: a ZONE that is JAMMED is not any more (its CARTON stays).");
        ZoneBelt x = Due.told("Z20100c00c01");
        x.eye(1, 1);
        x.step(1);
        Due.is("clear(0)", x.clear(0), 0);
        Due.all("cartons stay", Due.zones(x, 0), 1, 2);
        x.step(1);
        Due.is("jammed anew", x.count(11), 1);
    }

    private static void neverMoreThan14() {
        Due.sentence("are a row (never more than 14; if it has 14, the first one is forgotten ahead of the next)");
        for (int acts = 13; acts <= 16; acts++) {
            ZoneBelt x = new ZoneBelt();
            for (int i = 1; i <= acts; i++) {
                x.step(1);
                Due.is("acts in the row", x.count(13), Math.min(i, 14));
            }
            int kept = Math.min(acts, 14);
            for (int left = kept - 1; left >= 0; left--) {
                Due.is("undo()", x.undo(), left);
            }
            Due.is("no more", x.undo(), STATE);
            Due.is("those forgotten stay done", x.count(7), acts - kept);
        }
    }

    private static void roundAndRound() {
        Due.sentence("the last one can be undone.");
        ZoneBelt x = new ZoneBelt();
        for (int i = 1; i <= 40; i++) {
            x.make(1, i % 10);
        }
        for (int i = 1; i <= 5; i++) {
            Due.is("undo()", x.undo(), 14 - i);
            Due.is("rest", x.count(5), (40 - i) % 10);
        }
        // acts 27 to 35 are left; with eight more 30 to 35 are
        for (int i = 0; i < 8; i++) {
            x.turn();
        }
        Due.is("acts in the row", x.count(13), 14);
        for (int left = 13; left >= 0; left--) {
            Due.is("undo()", x.undo(), left);
        }
        Due.is("rest ahead of the thirtieth", x.count(5), 9);
        Due.is("no more", x.undo(), STATE);
        for (int i = 0; i < 30; i++) {
            Due.is("to and fro", x.make(1, 3), 9);
            Due.is("one act", x.count(13), 1);
            Due.is("undo()", x.undo(), 0);
        }
    }

    private static void eachThatIsNotRefused() {
        Due.sentence("Each that is not refused is an ACT.");
        ZoneBelt x = Due.told("Z30100c00c01");
        x.eye(1, 0);
        Due.is("an eye as it was", x.count(13), 1);
        x.make(0, 0);
        Due.is("train as it was", x.count(13), 2);
        x.make(1, 0);
        Due.is("rest as it was", x.count(13), 3);
        x.eye(1, 1);
        x.step(1);
        Due.is("a step", x.count(13), 5);
        x.clear(0);
        Due.is("cleared", x.count(13), 6);
        x.lift(0);
        Due.is("lifted", x.count(13), 7);
        x.feed(0);
        Due.is("fed", x.count(13), 8);
        x.turn();
        Due.is("turned", x.count(13), 9);
        x.step(99);
        Due.is("99 steps are one", x.count(13), 10);
        int refused = x.feed(2) + x.feed(1) + x.lift(3) + x.lift(2) + x.eye(3, 0) + x.eye(0, 3) + x.make(2, 0) + x.make(0, 2)
            + x.make(1, 10) + x.clear(3) + x.clear(2) + x.step(0) + x.step(100);
        Due.is("all refused", refused, -1 - 1 - 1 - 3 - 1 - 2 - 2 - 2 - 2 - 1 - 3 - 2 - 2);
        Due.is("are none", x.count(13), 10);
        x.write('Z');
        x.wipe();
        x.belt();
        x.see(0, 0, 0);
        x.unsee();
        x.seed(4);
        x.drawn(5);
        x.keep(0);
        Due.is("nor are these", x.count(13), 10);
    }

    private static void undoneEach() {
        Due.sentence("The last ACT is undone: how many are left.");
        ZoneBelt x = Due.told("Z42213c00c01c02c05");
        x.eye(2, 1);
        x.step(1);
        Due.is("a jam", x.count(11) == 0 ? 0 : 1, 1);
        long[] counts = Due.counts(x);
        for (int act = 0; act < 8; act++) {
            int done = act == 0 ? x.feed(1) : act == 1 ? x.lift(0) : act == 2 ? x.turn() : act == 3 ? x.eye(2, 2)
                : act == 4 ? x.make(0, 0) : act == 5 ? x.make(1, 0) : act == 6 ? x.clear(1) : x.step(30);
            Due.is("not refused", done < 0 ? 1 : 0, 0);
            Due.is("undo()", x.undo(), 2);
            Due.all("as it was ahead of act " + act, Due.counts(x), counts);
        }
        Due.is("undo()", x.undo(), 1);
        Due.is("the jam, too", x.count(11), 0);
        Due.all("tickets, too", Due.zones(x, 6), 0, 0, 0, 0, 0, 0);
        Due.is("the eye", x.zone(2, 1), 1);
        Due.is("undo()", x.undo(), 0);
        Due.is("the eye", x.zone(2, 1), 0);
    }

    private static void undoneLeaves() {
        Due.sentence("ACTS (FED, LIFTED, TURNED, EYED, MADE, CLEARED, STEPS: n of them)");
        ZoneBelt x = new ZoneBelt();
        x.turn();
        x.write('Z');
        x.see(1, 0, 1);
        x.seed(17);
        x.keep(1);
        Due.is("undo()", x.undo(), 0);
        Due.is("the text", x.count(0), 1);
        Due.is("seen", x.count(14), 1);
        Due.is("the seed", x.seed(17), 17);
        Due.is("kept", x.again(1), 0);
        Due.is("as it was kept: shut", x.count(6), 0);
    }

    private static void nothingToUndo() {
        Due.sentence("STATE: there is none.");
        ZoneBelt x = new ZoneBelt();
        Due.is("at first", x.undo(), STATE);
        x.step(0);
        Due.is("behind a refused act", x.undo(), STATE);
        x.step(1);
        Due.is("behind one", x.undo(), 0);
        Due.is("once only", x.undo(), STATE);
        x.step(1);
        Due.lay(x, "Z20100");
        Due.is("behind another belt", x.undo(), STATE);
        x.step(1);
        x.keep(0);
        x.again(0);
        Due.is("when one goes on from a slot", x.undo(), STATE);
    }

    private static void fiveHundredAndTwelve() {
        Due.sentence("An object is used for at most 512 calls after it has been made");
        ZoneBelt turns = new ZoneBelt();
        for (int call = 1; call <= 511; call++) {
            Due.is("turn()", turns.turn(), call % 2 == 0 ? 1 : 0);
        }
        Due.is("the 512th", turns.undo(), 13);
        ZoneBelt steps = new ZoneBelt();
        for (int call = 1; call <= 510; call++) {
            Due.is("step(99)", steps.step(99), 0);
        }
        Due.is("the clock", steps.count(7), 510 * 99);
        Due.is("idle, by the 512th", steps.zone(1, 5), 510 * 99);
        ZoneBelt tickets = new ZoneBelt();
        tickets.eye(0, 2);
        tickets.eye(1, 2);
        for (int call = 3; call <= 508; call++) {
            tickets.step(99);
        }
        Due.is("the first ticket is waited with", tickets.zone(0, 6), 1);
        tickets.eye(1, 0);
        tickets.step(99);
        Due.is("used and taken each step, the last one gone", tickets.zone(0, 6), 0);
        Due.is("the 512th", tickets.count(7), 507 * 99);
    }
}
