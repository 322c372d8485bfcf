/** Each sentence about SHARE, SHUT, THE SEED and DRAWN that names an edge: promises 22 to 25. */
public final class EdgesOfChancesTest {
    private static final long FACTOR = 6364136223846793005L;
    private static final long SUMMAND = 1442695040888963407L;
    private static final int OUTSIDE = ZoneBelt.OUTSIDE;
    private static final int STATE = ZoneBelt.STATE;

    public static void main(String[] args) {
        shareRefused();
        sixAtMost();
        sharesAddUp();
        onlyOneMended();
        twentySteps();
        lessThanNought();
        leastTerms();
        refusalsLikewise();
        shutRefused();
        shutByNoChance();
        shutByItself();
        eightSteps();
        theExitAsItIs();
        emptyAlready();
        seeds();
        drawnRefused();
        drawnWraps();
        drawnFortyTimes();
        drawnLines();
        drawnNinetyNine();
        drawnChangesOnlyTheSeed();
        Due.end("EdgesOfChancesTest");
    }

    private static void share(ZoneBelt x, int zone, int above, int below) {
        Due.fraction("share(" + zone + ")", x.share(zone, true), x.share(zone, false), above, below);
    }

    private static void shut(ZoneBelt x, int n, int tenths, int above, int below) {
        Due.fraction("shut(" + n + ", " + tenths + ")", x.shut(n, tenths, true), x.shut(n, tenths, false), above,
            below);
    }

    private static void shareRefused() {
        Due.sentence("SHARE. UNKNOWN; STATE: its EYE is SOUND, or more than 6 are not.");
        ZoneBelt x = Due.told("Z84100c00");
        Due.is("a sound one", x.share(11, true), STATE);
        Due.is("no such zone", x.share(12, true), ZoneBelt.UNKNOWN);
        Due.is("no such zone", x.share(-1, true), ZoneBelt.UNKNOWN);
        x.eye(11, 1);
        share(x, 11, 0, 1);
        x.eye(11, 2);
        share(x, 11, 0, 1);
        Due.is("another sound one", x.share(10, true), STATE);
        x.eye(11, 0);
        Due.is("sound again", x.share(11, true), STATE);
    }

    private static void sixAtMost() {
        Due.sentence("SHARE of a ZONE whose EYE is not SOUND (asked only if there are 6 such at most)");
        ZoneBelt x = Due.told("Z84100c00");
        for (int zone = 6; zone <= 11; zone++) {
            x.eye(zone, zone % 2 + 1);
            Due.is("six at most", x.share(zone, false) > 0 ? 1 : 0, 1);
        }
        x.eye(0, 2);
        for (int zone = -1; zone <= 12; zone++) {
            boolean known = zone >= 0 && zone < 12;
            Due.is("seven", x.share(zone, true), known ? STATE : ZoneBelt.UNKNOWN);
            Due.is("seven", x.share(zone, false), known ? STATE : ZoneBelt.UNKNOWN);
        }
        x.eye(8, 0);
        Due.is("six again", x.share(0, false) > 0 ? 1 : 0, 1);
        Due.is("the mended one", x.share(8, true), STATE);
        ZoneBelt y = Due.told("Z80100c00");
        for (int zone = 1; zone <= 6; zone++) {
            y.eye(zone, 1);
        }
        // the carton goes out only when all six are mended
        share(y, 1, 1, 6);
        share(y, 6, 1, 6);
    }

    /** The shares of all add up to what is out when all are mended, less what is out as it is. */
    private static void sharesAddUp() {
        Due.sentence("if these are SOUND one by one (others as they are), in each order as likely: by how many more are OUT "
            + "behind the next 20 STEPS in the mean when it is: a FRACTION.");
        String[] texts = {"Z84110c00c01c02c03c04c08c11", "Z84300c11c10c02c05c07", "Z71111c00c01c07c05"};
        for (String text : texts) {
            sharesOf(text, 120, 1, 2, 0, 1, 0, 2, 1);
            sharesOf(text, 720, 1, 2, 1, 1, 0, 2, 1);
        }
    }

    private static void sharesOf(String text, int orders, int... eyes) {
        ZoneBelt x = Due.told(text);
        for (int zone = 0; zone < eyes.length; zone++) {
            x.eye(zone, eyes[zone]);
        }
        long sum = 0;
        for (int zone = 0; zone < eyes.length; zone++) {
            if (eyes[zone] != 0) {
                int below = x.share(zone, false);
                Due.is("a part of " + orders, below > 0 ? orders % below : -1, 0);
                sum += below > 0 ? (long) x.share(zone, true) * (orders / below) : 0;
            }
        }
        int asItIs = x.step(20);
        x.undo();
        for (int zone = 0; zone < eyes.length; zone++) {
            x.eye(zone, 0);
        }
        Due.is("the sum in " + text, sum, (long) orders * (x.step(20) - asItIs));
    }

    private static void onlyOneMended() {
        Due.sentence("(others as they are)");
        ZoneBelt x = Due.told("Z20100c00c01");
        x.eye(1, 1);
        share(x, 1, 2, 1);
        x.eye(0, 1);
        // zone 1 lets one out by itself, and zone 0 one more behind it
        share(x, 1, 3, 2);
        share(x, 0, 1, 2);
        Due.is("eyes stay as they are", x.zone(0, 1) + x.zone(1, 1), 2);
    }

    private static void twentySteps() {
        Due.sentence("OUT behind the next 20 STEPS");
        ZoneBelt x = Due.told("Z84102");
        x.step(2);
        x.feed(1);
        x.eye(7, 1);
        for (int left = 22; left >= 19; left--) {
            x.eye(7, 0);
            Due.is("steps till it is out", x.ask(0), left);
            x.eye(7, 1);
            share(x, 7, left > 20 ? 0 : 1, 1);
            x.step(1);
        }
    }

    private static void lessThanNought() {
        Due.sentence("FRACTIONS are told above (upper = true; less than 0, if they are), below");
        ZoneBelt x = Due.told("Z84111c08");
        x.eye(11, 2);
        x.eye(2, 2);
        x.step(9);
        x.feed(1);
        share(x, 2, -1, 2);
        share(x, 11, -1, 2);
    }

    private static void leastTerms() {
        Due.sentence("in least terms (0 is 0 above, 1 below)");
        ZoneBelt x = Due.told("Z80100c00");
        for (int zone = 1; zone <= 4; zone++) {
            x.eye(zone, 1);
        }
        // six of 24 orders end with each
        share(x, 1, 1, 4);
        share(x, 4, 1, 4);
        ZoneBelt none = Due.told("Z80100");
        none.eye(3, 1);
        none.eye(5, 2);
        share(none, 3, 0, 1);
        ZoneBelt y = Due.told("Z20100c01");
        shut(y, 1, 5, 1, 2);
        shut(y, 1, 4, 3, 5);
        shut(y, 1, 10, 0, 1);
        shut(y, 8, 10, 0, 1);
        shut(y, 1, 0, 1, 1);
        shut(y, 2, 5, 3, 4);
        shut(y, 8, 1, 99999999, 100000000);
    }

    private static void refusalsLikewise() {
        Due.sentence("refusals of them are told likewise.");
        ZoneBelt x = new ZoneBelt();
        for (int i = 0; i <= 1; i++) {
            Due.is("share(2)", x.share(2, i == 0), ZoneBelt.UNKNOWN);
            Due.is("share(0)", x.share(0, i == 0), STATE);
            Due.is("shut(0, 0)", x.shut(0, 0, i == 0), OUTSIDE);
            Due.is("shut(1, 11)", x.shut(1, 11, i == 0), OUTSIDE);
        }
    }

    private static void shutRefused() {
        Due.sentence("SHUT. OUTSIDE: n, x.");
        ZoneBelt x = Due.told("Z20100c01");
        for (int n : new int[] {0, 9, -1, Integer.MIN_VALUE, Integer.MAX_VALUE}) {
            Due.is("shut(" + n + ", 5)", x.shut(n, 5, true), OUTSIDE);
        }
        for (int tenths : new int[] {-1, 11, Integer.MIN_VALUE, Integer.MAX_VALUE}) {
            Due.is("shut(8, " + tenths + ")", x.shut(8, tenths, true), OUTSIDE);
            Due.is("shut(9, " + tenths + ")", x.shut(9, tenths, false), OUTSIDE);
        }
        shut(x, 1, 10, 0, 1);
        shut(x, 8, 0, 1, 1);
    }

    private static void shutByNoChance() {
        Due.sentence("THE EXIT is shut by x tenths (0 to 10), by itself, else open");
        for (int n = 1; n <= 8; n++) {
            for (int zone = 0; zone < 8; zone++) {
                ZoneBelt x = Due.told("Z80100c0" + zone);
                shut(x, n, 0, zone >= 8 - n ? 1 : 0, 1);
                shut(x, n, 10, 0, 1);
            }
        }
        ZoneBelt y = Due.told("Z20100c01");
        for (int tenths = 0; tenths <= 10; tenths++) {
            int common = tenths == 0 || tenths == 10 ? 10 : tenths == 5 ? 5 : tenths % 2 == 0 ? 2 : 1;
            shut(y, 1, tenths, (10 - tenths) / common, 10 / common);
        }
    }

    private static void shutByItself() {
        Due.sentence("in each of the next n STEPS (1 to 8) THE EXIT is shut");
        ZoneBelt x = Due.told("Z20110c00c01");
        // two of n steps must be open: with one tenth shut 81/100, then 972/1000, ..
        shut(x, 1, 1, 0, 1);
        shut(x, 2, 1, 81, 100);
        shut(x, 3, 1, 243, 250);
        shut(x, 4, 5, 11, 16);
        // 1 less 9^8 and 8 times 9^7, of 10^8
        shut(x, 8, 9, 18689527, 100000000);
    }

    private static void eightSteps() {
        Due.sentence("that no CARTON is in any ZONE behind them: a FRACTION.");
        ZoneBelt x = Due.told("Z80100c00");
        shut(x, 7, 0, 0, 1);
        shut(x, 8, 0, 1, 1);
        shut(x, 8, 3, 7, 10);
        x.step(1);
        shut(x, 8, 3, 91, 100);
        x.eye(7, 1);
        shut(x, 8, 0, 0, 1);
        ZoneBelt y = Due.told("Z84100c07c11");
        // from zone 11 to 1 is a step, and seven more let it out; from zone 10 one more is wanted
        shut(y, 8, 0, 1, 1);
        y = Due.told("Z84100c07c10");
        shut(y, 8, 0, 0, 1);
    }

    private static void theExitAsItIs() {
        Due.sentence("SHUT: THE EXIT as it is does not matter.");
        ZoneBelt x = Due.told("Z20100c01");
        shut(x, 3, 2, 124, 125);
        x.turn();
        shut(x, 3, 2, 124, 125);
        Due.is("shut as it was", x.count(6), 0);
        x.turn();
        shut(x, 3, 2, 124, 125);
        Due.is("open as it was", x.count(6), 1);
    }

    private static void emptyAlready() {
        Due.sentence("no CARTON is in any ZONE behind them");
        ZoneBelt x = Due.told("Z84100");
        for (int n = 1; n <= 8; n++) {
            shut(x, n, 0, 1, 1);
            shut(x, n, 10, 1, 1);
            shut(x, n, 7, 1, 1);
        }
    }

    private static void seeds() {
        Due.sentence("THE SEED is v: what it was.");
        ZoneBelt x = new ZoneBelt();
        Due.is("at first", x.seed(Long.MAX_VALUE), 0);
        Due.is("the most", x.seed(Long.MIN_VALUE), Long.MAX_VALUE);
        Due.is("the least", x.seed(-1), Long.MIN_VALUE);
        Due.is("-1", x.seed(1L << 40), -1);
        Due.is("beyond an int", x.seed(0), 1L << 40);
    }

    private static void drawnRefused() {
        Due.sentence("DRAWN. OUTSIDE: m.");
        ZoneBelt x = new ZoneBelt();
        x.seed(7);
        for (int m : new int[] {0, 41, -1, Integer.MIN_VALUE, Integer.MAX_VALUE}) {
            Due.is("drawn(" + m + ")", x.drawn(m), OUTSIDE);
        }
        Due.is("the seed stays", x.seed(7), 7);
        Due.is("drawn(1)", x.drawn(1), 0);
        Due.is("drawn(40)", x.drawn(40) < 0 ? 1 : 0, 0);
    }

    private static long next(long x, int times) {
        long y = x;
        for (int i = 0; i < times; i++) {
            y = y * FACTOR + SUMMAND;
        }
        return y;
    }

    private static void drawnWraps() {
        Due.sentence("x (THE SEED, a long; 0 at first) becomes x * 6364136223846793005L + 1442695040888963407L (64 bits, "
            + "wrapping)");
        for (long seed : new long[] {0L, -1L, Long.MIN_VALUE, Long.MAX_VALUE, 123456789012345L}) {
            ZoneBelt x = new ZoneBelt();
            x.seed(seed);
            x.drawn(1);
            Due.is("once", x.seed(seed), next(seed, 1));
            x.drawn(2);
            x.drawn(38);
            Due.is("forty times", x.seed(seed), next(seed, 40));
        }
        ZoneBelt first = new ZoneBelt();
        first.drawn(1);
        Due.is("from 0", first.seed(0), SUMMAND);
    }

    private static void drawnFortyTimes() {
        Due.sentence("DRAWN by THE SEED: m times (1 to 40)");
        for (int m = 1; m <= 40; m++) {
            ZoneBelt x = new ZoneBelt();
            x.seed(m);
            x.drawn(m);
            Due.is("m times", x.seed(0), next(m, m));
        }
    }

    /** A seed by which the first draw is this one of v % 3. */
    private static long seedFor(int wanted) {
        for (long seed = 0; seed < 1000; seed++) {
            if ((int) (next(seed, 1) >>> 33) % 3 == wanted) {
                return seed;
            }
        }
        return -1;
    }

    private static void drawnLines() {
        Due.sentence("by v % 3 0 or 1 that LINE is FED, if there is such a one and its ENTRY has no CARTON (and fewer than 99 "
            + "were ever); then there is a STEP, all from then on: how many are OUT by these.");
        ZoneBelt x = Due.told("Z21100");
        for (int line = 0; line <= 2; line++) {
            x.seed(seedFor(line));
            Due.is("none out by one", x.drawn(1), 0);
        }
        // with two zones in line 0 a carton goes out by the second step behind its feed, from line 1 as well
        ZoneBelt two = new ZoneBelt();
        for (long seed = 0; seed < 60; seed++) {
            int first = (int) (next(seed, 1) >>> 33) % 3;
            two.seed(seed);
            Due.is("two steps", two.drawn(2), first == 0 ? 1 : 0);
            x.seed(seed);
            Due.is("two steps, line 1 too", x.drawn(2), first < 2 ? 1 : 0);
        }
        ZoneBelt held = Due.told("Z20100c00");
        held.eye(0, 1);
        held.seed(seedFor(0));
        Due.is("an entry that has one", held.drawn(40), 0);
        held.turn();
        held.eye(0, 0);
        Due.is("shut", held.drawn(40), 0);
    }

    private static void drawnNinetyNine() {
        Due.sentence("its ENTRY has no CARTON (and fewer than 99 were ever)");
        ZoneBelt x = new ZoneBelt();
        for (int i = 1; i <= 96; i++) {
            x.feed(0);
            x.step(2);
        }
        for (int fed = 96; fed <= 99; fed++) {
            // forty draws feed line 0 far more often than three times
            Due.is("fed", x.count(8), fed);
            for (long seed = 0; seed < 8; seed++) {
                x.seed(seed);
                Due.is("so many more", x.drawn(40), 99 - fed);
            }
            Due.is("fed", x.feed(0), fed < 99 ? fed + 1 : ZoneBelt.FULL);
            x.step(2);
        }
    }

    private static void drawnChangesOnlyTheSeed() {
        Due.sentence("(Nothing changes but THE SEED.)");
        ZoneBelt x = Due.told("Z32212c00c04");
        x.step(1);
        x.keep(0);
        long[] counts = Due.counts(x);
        x.drawn(40);
        Due.all("counts", Due.counts(x), counts);
        x.drawn(1);
        Due.all("counts", Due.counts(x), counts);
        Due.is("the seed", x.seed(0), next(0, 41));
        Due.is("undo()", x.undo(), 0);
        Due.is("the next carton", x.feed(1), 3);
        Due.is("kept", x.again(0), 1);
    }
}
