/** Promises 15 to 18: ahead, ask, row, judge. */
public final class AskedTest {
    private static final int NONE = ZoneBelt.NONE;

    public static void main(String[] args) {
        aheadRefused();
        aheadAsStepsGo();
        emptyAndRow();
        shutForGood();
        whereLinesMeet();
        asleepAtFirst();
        bestRest();
        rowByTickets();
        judgedNumbers();
        judgedEach();
        judgedRows();
        Due.end("AskedTest");
    }

    private static void aheadRefused() {
        ZoneBelt x = Due.told("Z30100c00");
        Due.is("ahead(1, 3, 0)", x.ahead(1, 3, 0), ZoneBelt.UNKNOWN);
        Due.is("ahead(1, -1, 0)", x.ahead(1, -1, 0), ZoneBelt.UNKNOWN);
        Due.is("UNKNOWN ahead of OUTSIDE", x.ahead(100, 3, 7), ZoneBelt.UNKNOWN);
        Due.is("ahead(100, 0, 0)", x.ahead(100, 0, 0), ZoneBelt.OUTSIDE);
        Due.is("ahead(-1, 0, 0)", x.ahead(-1, 0, 0), ZoneBelt.OUTSIDE);
        Due.is("ahead(0, 0, 7)", x.ahead(0, 0, 7), ZoneBelt.OUTSIDE);
        Due.is("ahead(0, 0, -1)", x.ahead(0, 0, -1), ZoneBelt.OUTSIDE);
        Due.is("ahead(0, 0, 0)", x.ahead(0, 0, 0), 1);
        Due.is("ahead(99, 0, 5)", x.ahead(99, 0, 5), 99);
    }

    /** AHEAD holds against the steps themselves, by all that zone() tells. */
    private static void aheadAsStepsGo() {
        String[] texts = {"Z30102c00c01", "Z42213c00c01c02c04c05", "Z84501c00c03c07c08c11"};
        for (String text : texts) {
            ZoneBelt x = Due.told(text);
            x.eye(2, 1);
            x.turn();
            ZoneBelt y = Due.told(text);
            y.eye(2, 1);
            y.turn();
            for (int n = 0; n < 6; n++) {
                for (int zone = 0; zone < 3; zone++) {
                    for (int what = 0; what < 7; what++) {
                        Due.is("ahead in " + text, x.ahead(n, zone, what), y.zone(zone, what));
                    }
                }
                y.step(1);
            }
            Due.is("nothing changed", x.count(7), 0);
            Due.is("nothing changed", x.count(13), 2);
            Due.is("nothing changed", x.zone(0, 0), 1);
        }
    }

    private static void emptyAndRow() {
        ZoneBelt x = Due.told("Z30100c00c01");
        Due.is("EMPTY", x.ask(0), 4);
        Due.is("BEST", x.ask(1), 0);
        Due.is("how many", x.ask(2), 2);
        Due.is("row(0)", x.row(0), 2);
        Due.is("row(1)", x.row(1), 1);
        Due.is("row(2)", x.row(2), NONE);
        Due.is("row(-1)", x.row(-1), NONE);
        Due.is("row(60)", x.row(60), NONE);
        Due.is("row(most)", x.row(Integer.MAX_VALUE), NONE);
        Due.is("row(least)", x.row(Integer.MIN_VALUE), NONE);
        Due.is("ask(3)", x.ask(3), ZoneBelt.OUTSIDE);
        Due.is("ask(-1)", x.ask(-1), ZoneBelt.OUTSIDE);
        Due.is("nothing changed", x.count(7), 0);
        x.make(0, 1);
        Due.is("EMPTY as a train", x.ask(0), 3);
        x.step(2);
        Due.is("EMPTY", x.ask(0), 1);
        Due.is("how many from now on", x.ask(2), 1);
        Due.is("row(0)", x.row(0), 1);
        Due.is("row(1)", x.row(1), NONE);
        x.step(1);
        Due.is("EMPTY", x.ask(0), 0);
        Due.is("how many", x.ask(2), 0);
        Due.is("row(0)", x.row(0), NONE);
    }

    private static void shutForGood() {
        ZoneBelt x = Due.told("Z30105c00c01");
        x.turn();
        Due.is("EMPTY", x.ask(0), NONE);
        Due.is("BEST", x.ask(1), 0);
        Due.is("how many", x.ask(2), 0);
        Due.is("row(0)", x.row(0), NONE);
        x.turn();
        x.eye(0, 1);
        Due.is("one stays unseen", x.ask(0), NONE);
        Due.is("how many", x.ask(2), 1);
        Due.is("row(0)", x.row(0), 2);
    }

    private static void whereLinesMeet() {
        ZoneBelt x = Due.told("Z31100c00c03");
        Due.is("EMPTY", x.ask(0), 5);
        Due.is("row(0)", x.row(0), 1);
        Due.is("row(1)", x.row(1), 2);
        Due.is("row(2)", x.row(2), NONE);
    }

    private static void asleepAtFirst() {
        ZoneBelt x = Due.told("Z30102");
        x.step(2);
        x.feed(0);
        Due.is("each zone wakes first", x.ask(0), 6);
        Due.is("as soon by any rest", x.ask(1), 0);
        ZoneBelt y = Due.told("Z50101c00");
        // zones 3 and 4 fall asleep in the first step, ahead of the carton
        Due.is("EMPTY", y.ask(0), 7);
        y.make(1, 0);
        Due.is("EMPTY without rest", y.ask(0), 5);
        y.make(1, 2);
        Due.is("EMPTY by 2", y.ask(0), 6);
        Due.is("BEST", y.ask(1), 0);
    }

    private static void bestRest() {
        // found by a search: here alone some sleep lets the lines meet sooner
        bestOf(Due.told("Z84711c00c05c03c02c06c04"), 1, 8);
        bestOf(Due.told("Z64213c08"), 0, -1);
    }

    private static void bestOf(ZoneBelt x, int best, int least) {
        x.eye(7, 2);
        x.eye(5, 2);
        x.feed(1);
        int found = 0;
        int soonest = 61;
        for (int rest = 0; rest <= 9; rest++) {
            x.make(1, rest);
            int steps = x.ask(0);
            x.undo();
            if (steps != NONE && steps < soonest) {
                soonest = steps;
                found = rest;
            }
        }
        Due.is("BEST by trying each", x.ask(1), found);
        Due.is("BEST", x.ask(1), best);
        if (least >= 0) {
            Due.is("EMPTY by it", soonest, least);
        }
    }

    private static void rowByTickets() {
        ZoneBelt x = Due.told("Z42210c00c01c02c04c05");
        int[] row = {3, 2, 5, 1, 4};
        for (int i = 0; i < row.length; i++) {
            Due.is("row(" + i + ")", x.row(i), row[i]);
        }
        Due.is("how many", x.ask(2), 5);
        x.lift(4);
        Due.is("how many are left", x.ask(2), 4);
        Due.is("the same again", x.ask(2), 4);
    }

    private static void judgedNumbers() {
        ZoneBelt x = Due.told("Z30100c00c01");
        Due.is("judge(0, 0)", x.judge(0, 0L), ZoneBelt.OUTSIDE);
        Due.is("judge(5, 0)", x.judge(5, 0L), ZoneBelt.OUTSIDE);
        Due.is("judge(-1, 0)", x.judge(-1, 0L), ZoneBelt.OUTSIDE);
        Due.is("judge(1, -1)", x.judge(1, -1L), ZoneBelt.OUTSIDE);
        Due.is("judge(1, least)", x.judge(1, Long.MIN_VALUE), ZoneBelt.OUTSIDE);
        Due.is("judge(4, most)", x.judge(4, Long.MAX_VALUE), ZoneBelt.OUTSIDE);
        long limit = 1;
        for (int n = 1; n <= 4; n++) {
            limit *= 1000;
            Due.is("one figure more", x.judge(n, limit), ZoneBelt.OUTSIDE);
            Due.is("as many", x.judge(n, limit - 1), 0);
        }
    }

    private static void judged(ZoneBelt x, int want, int... doings) {
        for (int doing : doings) {
            Due.is("judge(1, " + doing + ")", x.judge(1, doing), want);
        }
    }

    private static void judgedEach() {
        ZoneBelt x = Due.told("Z31100c00c01");
        judged(x, NONE, 101, 199, 201, 300, 301, 400, 500, 512, 531, 601, 611, 620, 630, 700, 800, 810, 830);
        judged(x, 0, 0, 1, 99, 100);
        judged(x, 0, 200, 202, 209, 211, 210);
        judged(x, 0, 302, 303, 304, 309, 310);
        judged(x, 0, 401, 410, 499);
        judged(x, 0, 503, 509, 540, 590);
        judged(x, 0, 600, 602, 621, 631, 640, 641, 690);
        judged(x, 0, 701, 799);
        judged(x, 0, 801, 802, 811, 840, 841, 890);
        judged(x, 0, 900, 911, 999);
        ZoneBelt alone = Due.told("Z30100");
        judged(alone, 0, 201);
        judged(alone, NONE, 200);
    }

    private static void judgedRows() {
        ZoneBelt x = Due.told("Z30100c00c01");
        Due.is("fed when there is room", x.judge(2, 102200L), NONE);
        Due.is("and there it is", x.judge(3, 102200601L), NONE);
        Due.is("fed from then on", x.judge(3, 102200200L), 2);
        Due.is("shut", x.judge(3, 400102700L), NONE);
        Due.is("shut", x.judge(3, 400102701L), 2);
        Due.is("shut and opened", x.judge(4, 400400102701L), NONE);
        Due.is("jammed", x.judge(3, 511101801L), NONE);
        Due.is("jammed", x.judge(3, 511101800L), 2);
        Due.is("lifted ones are not jammed", x.judge(4, 511101300800L), NONE);
        Due.is("nor there", x.judge(2, 300600L), NONE);
        Due.is("lifted twice", x.judge(2, 300300L), 1);
        Due.is("all out", x.judge(2, 104702L), NONE);
        Due.is("not so", x.judge(2, 104701L), 1);
        Due.is("the first of several", x.judge(4, 601600620611L), 1);
        Due.is("noughts ahead", x.judge(2, 101L), 0);
        Due.is("99 steps", x.judge(2, 199702L), NONE);
        Due.is("nothing changed", x.count(7) + x.count(9) + x.count(11) + x.count(13), 0);
        Due.is("nothing changed", x.count(10), 3);
        Due.is("nothing changed", x.count(6), 1);
        x.step(2);
        Due.is("from now on", x.judge(3, 701102702L), NONE);
    }
}
