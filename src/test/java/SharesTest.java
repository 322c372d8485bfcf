/** Promises 22 to 25: share, shut, seed, drawn. */
public final class SharesTest {
    private static final long FACTOR = 6364136223846793005L;
    private static final long SUMMAND = 1442695040888963407L;

    public static void main(String[] args) {
        shares();
        sharesRefused();
        sharesOfSix();
        twentySteps();
        lessThanNought();
        shutOnce();
        shutOften();
        shutRefused();
        seeds();
        drawnAsDone();
        Due.end("SharesTest");
    }

    private static void share(ZoneBelt x, int zone, int above, int below) {
        Due.fraction("share(" + zone + ")", x.share(zone, true), x.share(zone, false), above, below);
    }

    private static void shares() {
        ZoneBelt x = Due.told("Z30100c00c01");
        x.eye(1, 1);
        share(x, 1, 2, 1);
        x.eye(2, 1);
        share(x, 1, 1, 1);
        share(x, 2, 1, 1);
        x.eye(0, 1);
        // 0 adds one, and only behind both of the others
        share(x, 0, 1, 3);
        share(x, 1, 5, 6);
        share(x, 2, 5, 6);
        Due.is("nothing changed", x.count(7) + x.count(9), 0);
        Due.is("nothing changed", x.zone(0, 1), 1);
        ZoneBelt none = Due.told("Z30100");
        none.eye(0, 2);
        none.eye(2, 1);
        share(none, 0, 0, 1);
        share(none, 2, 0, 1);
        ZoneBelt light = Due.told("Z30100c00");
        light.eye(1, 2);
        share(light, 1, 1, 1);
        light.turn();
        share(light, 1, 0, 1);
    }

    private static void sharesRefused() {
        ZoneBelt x = Due.told("Z81100c00");
        for (int i = 0; i < 2; i++) {
            boolean upper = i == 0;
            Due.is("share(9)", x.share(9, upper), ZoneBelt.UNKNOWN);
            Due.is("share(-1)", x.share(-1, upper), ZoneBelt.UNKNOWN);
            Due.is("share of a sound one", x.share(0, upper), ZoneBelt.STATE);
        }
        for (int zone = 1; zone <= 6; zone++) {
            x.eye(zone, 1);
        }
        // the carton goes out only when all six are mended
        for (int zone = 1; zone <= 6; zone++) {
            share(x, zone, 1, 6);
        }
        Due.is("share of a sound one", x.share(7, true), ZoneBelt.STATE);
        x.eye(8, 2);
        Due.is("seven are not sound", x.share(1, true), ZoneBelt.STATE);
        Due.is("seven are not sound", x.share(8, false), ZoneBelt.STATE);
        Due.is("seven are not sound", x.share(9, false), ZoneBelt.UNKNOWN);
    }

    private static void sharesOfSix() {
        ZoneBelt x = Due.told("Z81100c00");
        for (int zone = 1; zone <= 5; zone++) {
            x.eye(zone, 1);
        }
        x.eye(8, 1);
        // zone 8 adds nothing, so the five share alone, each as the last of them
        for (int zone = 1; zone <= 5; zone++) {
            share(x, zone, 1, 5);
        }
        share(x, 8, 0, 1);
        ZoneBelt y = Due.told("Z80100c03c04c05c06c07");
        for (int zone = 3; zone <= 7; zone++) {
            y.eye(zone, 1);
        }
        // a carton goes out when its zone and all behind it are mended: 1/5 for five, 1/4 for four, ..
        share(y, 3, 1, 5);
        share(y, 4, 9, 20);
        share(y, 5, 47, 60);
        share(y, 6, 77, 60);
        share(y, 7, 137, 60);
    }

    private static void twentySteps() {
        ZoneBelt x = Due.told("Z84102");
        x.step(2);
        x.feed(1);
        Due.is("eleven zones asleep", x.ask(0), 22);
        x.eye(7, 1);
        share(x, 7, 0, 1);
        x.step(1);
        share(x, 7, 0, 1);
        x.step(1);
        share(x, 7, 1, 1);
    }

    private static void lessThanNought() {
        ZoneBelt x = Due.told("Z84112c00");
        x.eye(2, 2);
        x.step(7);
        x.feed(1);
        // the light eye keeps zones awake, so that the carton from line 1 is out in time
        int lit = x.step(20);
        x.undo();
        x.eye(2, 0);
        int mended = x.step(20);
        x.undo();
        x.undo();
        Due.is("one less", mended - lit, -1);
        share(x, 2, -1, 1);
        ZoneBelt y = Due.told("Z84111c08");
        y.eye(11, 2);
        y.eye(2, 2);
        y.step(9);
        y.feed(1);
        share(y, 2, -1, 2);
        share(y, 11, -1, 2);
    }

    private static void shut(ZoneBelt x, int n, int tenths, int above, int below) {
        Due.fraction("shut(" + n + ", " + tenths + ")", x.shut(n, tenths, true), x.shut(n, tenths, false), above,
            below);
    }

    private static void shutOnce() {
        ZoneBelt x = Due.told("Z20100c01");
        shut(x, 1, 3, 7, 10);
        shut(x, 1, 0, 1, 1);
        shut(x, 1, 10, 0, 1);
        shut(x, 1, 5, 1, 2);
        shut(x, 2, 5, 3, 4);
        shut(x, 2, 3, 91, 100);
        shut(x, 8, 9, 56953279, 100000000);
        shut(x, 8, 10, 0, 1);
        x.turn();
        shut(x, 1, 3, 7, 10);
        Due.is("still shut", x.count(6), 0);
        Due.is("nothing changed", x.count(7), 0);
        shut(new ZoneBelt(), 8, 10, 1, 1);
        shut(new ZoneBelt(), 3, 7, 1, 1);
    }

    private static void shutOften() {
        ZoneBelt x = Due.told("Z20100c00");
        shut(x, 1, 0, 0, 1);
        shut(x, 2, 4, 3, 5);
        ZoneBelt two = Due.told("Z20100c00c01");
        // open, then zone 0 hands on, then open
        shut(two, 2, 0, 0, 1);
        shut(two, 3, 2, 16, 25);
        shut(two, 4, 5, 1, 2);
        two.make(0, 1);
        // as a train: two of n open, the one behind moves up with the first
        shut(two, 2, 2, 16, 25);
        shut(two, 3, 5, 1, 2);
        shut(two, 8, 5, 247, 256);
        ZoneBelt dark = Due.told("Z20100c01");
        dark.eye(1, 1);
        shut(dark, 8, 0, 0, 1);
    }

    private static void shutRefused() {
        ZoneBelt x = new ZoneBelt();
        for (int i = 0; i < 2; i++) {
            boolean upper = i == 0;
            Due.is("shut(0, 0)", x.shut(0, 0, upper), ZoneBelt.OUTSIDE);
            Due.is("shut(9, 0)", x.shut(9, 0, upper), ZoneBelt.OUTSIDE);
            Due.is("shut(1, -1)", x.shut(1, -1, upper), ZoneBelt.OUTSIDE);
            Due.is("shut(1, 11)", x.shut(1, 11, upper), ZoneBelt.OUTSIDE);
        }
    }

    private static void seeds() {
        ZoneBelt x = new ZoneBelt();
        Due.is("seed(8)", x.seed(8), 0);
        Due.is("seed(-1)", x.seed(-1), 8);
        Due.is("drawn(0)", x.drawn(0), ZoneBelt.OUTSIDE);
        Due.is("drawn(41)", x.drawn(41), ZoneBelt.OUTSIDE);
        Due.is("drawn(-1)", x.drawn(-1), ZoneBelt.OUTSIDE);
        Due.is("the seed stays", x.seed(Long.MIN_VALUE), -1);
        x.drawn(1);
        Due.is("by one", x.seed(0), Long.MIN_VALUE * FACTOR + SUMMAND);
        x.drawn(1);
        x.drawn(2);
        Due.is("by three", x.seed(0), ((SUMMAND * FACTOR + SUMMAND) * FACTOR) + SUMMAND);
        x.seed(8);
        x.drawn(40);
        Due.is("by forty", x.seed(0), -8128704588419321776L);
    }

    /** What is drawn is done by acts on another object. */
    private static void drawnAsDone() {
        String[] texts = {"Z20100", "Z31100c03", "Z84711c00c05", "Z52304c06c01"};
        for (String text : texts) {
            for (long seed = 0; seed < 12; seed++) {
                ZoneBelt x = Due.told(text);
                ZoneBelt y = Due.told(text);
                x.seed(seed * 1234567891011L);
                int m = 1 + (int) (seed * 3);
                Due.is("drawn(" + m + ") in " + text, x.drawn(m), done(y, seed * 1234567891011L, m));
                Due.is("nothing changed", x.count(7) + x.count(9) + x.count(13), 0);
                Due.is("nothing fed", x.count(8), (text.length() - 6) / 3);
            }
        }
    }

    private static int done(ZoneBelt y, long seed, int m) {
        int out = 0;
        long x = seed;
        for (int i = 0; i < m; i++) {
            x = x * FACTOR + SUMMAND;
            int v = (int) (x >>> 33);
            if (v % 3 < 2) {
                y.feed(v % 3);
            }
            out += y.step(1);
        }
        return out;
    }
}
