/** Each sentence about what is asked ahead, or judged, that names an edge: promises 15 to 18. */
public final class EdgesOfAskedTest {
    private static final int NONE = ZoneBelt.NONE;
    private static final int UNKNOWN = ZoneBelt.UNKNOWN;
    private static final int OUTSIDE = ZoneBelt.OUTSIDE;

    public static void main(String[] args) {
        aheadFrom0To99();
        aheadRefused();
        nothingIsFed();
        nothingIsChanged();
        emptyFrom0On();
        emptyNever();
        bestOfLikeOnes();
        bestFrom0To9();
        bestWhereNone();
        askRefused();
        rowsOfTwelve();
        rowsEnd();
        sixtySteps();
        judgedRefused();
        threeFiguresEach();
        stepsJudged();
        fedJudged();
        liftedJudged();
        turnedJudged();
        eyedJudged();
        cartonsJudged();
        outJudged();
        jammedJudged();
        noSuchDoing();
        aFigureIsAZone();
        doneFromThenOn();
        theFirstThatCanNotBe();
        Due.end("EdgesOfAskedTest");
    }

    private static void aheadFrom0To99() {
        Due.sentence("AHEAD: how a ZONE stands behind n STEPS (nothing being FED).");
        ZoneBelt x = Due.told("Z84109c11c00");
        ZoneBelt y = Due.told("Z84109c11c00");
        for (int n : new int[] {0, 1, 2, 8, 9, 10, 98, 99}) {
            ZoneBelt z = Due.told("Z84109c11c00");
            if (n > 0) {
                z.step(n);
            }
            for (int what = 0; what <= 6; what++) {
                for (int zone : new int[] {0, 1, 7, 11}) {
                    Due.is("ahead(" + n + ", " + zone + ", " + what + ")", x.ahead(n, zone, what), z.zone(zone, what));
                }
            }
        }
        Due.is("as it stands", x.ahead(0, 11, 0), 1);
        Due.is("99 ahead", x.ahead(99, 11, 5), 97);
        for (int what = 0; what <= 6; what++) {
            Due.all("nothing changed", Due.zones(x, what), Due.zones(y, what));
        }
    }

    private static void aheadRefused() {
        Due.sentence("AHEAD: what as zone() tells it. UNKNOWN; OUTSIDE: n (0 to 99), what (0 to 6).");
        ZoneBelt x = Due.told("Z84100c11");
        for (int bad : new int[] {-1, 100, Integer.MIN_VALUE, Integer.MAX_VALUE}) {
            Due.is("ahead(" + bad + ", 11, 0)", x.ahead(bad, 11, 0), OUTSIDE);
            Due.is("ahead(" + bad + ", 12, 0)", x.ahead(bad, 12, 0), UNKNOWN);
        }
        for (int bad : new int[] {-1, 7, Integer.MIN_VALUE, Integer.MAX_VALUE}) {
            Due.is("ahead(0, 11, " + bad + ")", x.ahead(0, 11, bad), OUTSIDE);
            Due.is("ahead(0, -1, " + bad + ")", x.ahead(0, -1, bad), UNKNOWN);
        }
        Due.is("ahead(0, 12, 0)", x.ahead(0, 12, 0), UNKNOWN);
        Due.is("ahead(0, 11, 6)", x.ahead(0, 11, 6), 0);
        Due.is("ahead(99, 11, 6)", x.ahead(99, 11, 6), 0);
        Due.is("ahead(1, 11, 0)", x.ahead(1, 11, 0), NONE);
        Due.is("ahead(1, 1, 0)", x.ahead(1, 1, 0), 1);
    }

    private static void nothingIsFed() {
        Due.sentence("behind n STEPS (nothing being FED)");
        ZoneBelt x = Due.told("Z20100");
        for (int n = 0; n <= 3; n++) {
            Due.is("none comes in", x.ahead(n, 0, 0), NONE);
        }
        Due.is("none goes out", x.ask(2), 0);
    }

    private static void nothingIsChanged() {
        Due.sentence("In what follows nothing is changed.");
        ZoneBelt x = Due.told("Z32212c00c01c04");
        x.eye(2, 1);
        x.turn();
        x.step(1);
        x.keep(0);
        long[] counts = Due.counts(x);
        x.ahead(99, 0, 0);
        x.ask(0);
        x.ask(1);
        x.ask(2);
        x.row(0);
        x.judge(4, 400104521300L);
        x.judge(2, 200101L);
        x.which();
        x.share(2, true);
        x.shut(8, 5, true);
        Due.all("counts", Due.counts(x), counts);
        Due.is("undo()", x.undo(), 2);
        Due.is("the clock", x.count(7), 0);
        Due.is("kept", x.again(0), 1);
    }

    private static void emptyFrom0On() {
        Due.sentence("EMPTY: the least n (0 to 60) behind which there is no CARTON in any ZONE; NONE.");
        ZoneBelt none = new ZoneBelt();
        Due.is("none at first", none.ask(0), 0);
        none.eye(0, 2);
        none.turn();
        Due.is("a light eye is no carton", none.ask(0), 0);
        for (int zone = 0; zone < 8; zone++) {
            Due.is("a carton in " + zone, Due.told("Z80100c0" + zone).ask(0), 8 - zone);
        }
        Due.is("line 1", Due.told("Z84100c08").ask(0), 11);
        ZoneBelt x = Due.told("Z84101c00c01c02c03c04c05c06c07c09c10c11");
        x.eye(0, 2);
        x.feed(1);
        // the light eye takes each other ticket, and zones fall asleep between
        Due.is("the longest that was found", x.ask(0), 30);
        Due.is("29 steps", x.step(29), 11);
        Due.is("one more", x.ask(0), 1);
        Due.is("the last one", x.step(1), 1);
        Due.is("none", x.ask(0), 0);
    }

    private static void emptyNever() {
        Due.sentence("behind which there is no CARTON in any ZONE; NONE.");
        ZoneBelt x = Due.told("Z20100c01");
        x.turn();
        Due.is("shut", x.ask(0), NONE);
        x.turn();
        x.eye(1, 1);
        Due.is("dark", x.ask(0), NONE);
        x.eye(1, 0);
        Due.is("sound", x.ask(0), 1);
        ZoneBelt jammed = Due.told("Z30100c00c01");
        jammed.eye(1, 1);
        jammed.step(1);
        jammed.eye(1, 0);
        Due.is("jammed", jammed.ask(0), NONE);
        jammed.clear(0);
        Due.is("cleared", jammed.ask(0), 4);
        jammed.step(1);
        jammed.lift(0);
        Due.is("lifted", jammed.ask(0), 1);
    }

    /** EMPTY for each REST, by steps that are done one by one. */
    private static long[] emptyByRests(ZoneBelt x) {
        long[] row = new long[10];
        x.keep(0);
        for (int rest = 0; rest <= 9; rest++) {
            x.make(1, rest);
            int steps = 0;
            for (int i = 0; i < 60 && x.count(10) != 0; i++) {
                x.step(1);
                steps++;
            }
            row[rest] = x.count(10) == 0 ? steps : NONE;
            x.again(0);
        }
        return row;
    }

    private static void bestOfLikeOnes() {
        Due.sentence("EMPTY is least (NONE is behind all), of like ones the least.");
        Due.is("all alike", Due.told("Z20105c00").ask(1), 0);
        ZoneBelt x = Due.told("Z33105c00c04");
        x.step(7);
        x.feed(1);
        x.make(0, 1);
        x.eye(0, 2);
        x.feed(0);
        x.eye(5, 2);
        Due.is("the least of 2, 3 and 4", x.ask(1), 2);
        Due.all("EMPTY by each", emptyByRests(x), 9, 9, 8, 8, 8, 9, 9, 9, 9, 9);
        Due.is("rest stays as it is", x.count(5), 5);
        ZoneBelt y = Due.told("Z74115c10");
        y.eye(10, 2);
        y.step(6);
        y.feed(1);
        y.eye(0, 2);
        y.feed(0);
        Due.is("the least of 3, 4 and 5", y.ask(1), 3);
        Due.all("EMPTY by each", emptyByRests(y), 15, 19, 19, 14, 14, 14, 15, 15, 15, 15);
    }

    private static void bestFrom0To9() {
        Due.sentence("BEST: the REST (0 to 9) by which, told anew now, EMPTY is least");
        ZoneBelt nine = Due.told("Z82603c01c06c07c08c09");
        nine.make(1, 6);
        nine.eye(9, 2);
        nine.eye(5, 2);
        nine.step(10);
        nine.lift(4);
        nine.make(1, 0);
        nine.step(2);
        nine.make(0, 1);
        nine.feed(0);
        Due.is("BEST is 9", nine.ask(1), 9);
        Due.is("EMPTY by 0", nine.ask(0), 14);
        nine.make(1, 9);
        Due.is("EMPTY by 9", nine.ask(0), 13);
        ZoneBelt eight = Due.told("Z74508c03c04c05c08c09c10");
        eight.eye(4, 2);
        eight.step(15);
        eight.eye(3, 1);
        eight.step(2);
        eight.make(0, 1);
        eight.step(1);
        eight.eye(3, 0);
        eight.feed(0);
        eight.eye(10, 2);
        Due.is("BEST is 8", eight.ask(1), 8);
        Due.all("EMPTY by each", emptyByRests(eight), 12, 14, 14, 14, 14, 14, 14, 13, 11, 12);
    }

    private static void bestWhereNone() {
        Due.sentence("BEST is 0 where EMPTY is NONE by all.");
        ZoneBelt x = Due.told("Z20107c00");
        x.turn();
        Due.is("shut", x.ask(1), 0);
        x.turn();
        x.eye(0, 1);
        Due.is("dark", x.ask(1), 0);
        Due.is("rest stays as it is", x.count(5), 7);
        Due.is("no cartons", Due.told("Z20109").ask(1), 0);
    }

    private static void askRefused() {
        Due.sentence("EMPTY (what = 0; NONE), BEST (1), how many go OUT in ROW (2). OUTSIDE.");
        ZoneBelt x = Due.told("Z30100c00c01");
        for (int what : new int[] {-1, 3, Integer.MIN_VALUE, Integer.MAX_VALUE}) {
            Due.is("ask(" + what + ")", x.ask(what), OUTSIDE);
        }
        Due.is("ask(0)", x.ask(0), 4);
        Due.is("ask(1)", x.ask(1), 0);
        Due.is("ask(2)", x.ask(2), 2);
    }

    private static void rowsOfTwelve() {
        Due.sentence("ROW: numbers of CARTONS as they go OUT in the next 60 STEPS.");
        ZoneBelt x = Due.told("Z84710c07c06c05c04c03c02c01c00c11c10c09");
        Due.is("the twelfth", x.feed(1), 12);
        Due.is("how many", x.ask(2), 12);
        // line 0 and line 1 take turns at zone 7, till line 1 has no more
        int[] row = {1, 2, 9, 3, 10, 4, 11, 5, 12, 6, 7, 8};
        for (int place = 0; place < 12; place++) {
            Due.is("row(" + place + ")", x.row(place), row[place]);
        }
        Due.is("row(12)", x.row(12), NONE);
        Due.is("all are out", x.step(12), 12);
    }

    private static void rowsEnd() {
        Due.sentence("ROW: the number at a place; NONE: there are not so many (below 0, too).");
        ZoneBelt x = Due.told("Z30100c00c01");
        for (int place : new int[] {-1, 2, 59, 60, 61, Integer.MIN_VALUE, Integer.MAX_VALUE}) {
            Due.is("row(" + place + ")", x.row(place), NONE);
        }
        Due.is("row(0)", x.row(0), 2);
        Due.is("row(1)", x.row(1), 1);
        x.step(2);
        Due.is("those that are out do not count", x.row(0), 1);
        Due.is("row(1)", x.row(1), NONE);
        Due.is("how many", x.ask(2), 1);
        x.turn();
        Due.is("shut", x.row(0), NONE);
        Due.is("how many", x.ask(2), 0);
        Due.is("no cartons", new ZoneBelt().row(0), NONE);
    }

    private static void sixtySteps() {
        Due.sentence("as they go OUT in the next 60 STEPS");
        ZoneBelt x = Due.told("Z84101c00c01c02c03c04c05c06c07c09c10c11");
        x.eye(0, 2);
        x.feed(1);
        // the twelfth goes out in the thirtieth step
        Due.is("how many", x.ask(2), 12);
        Due.is("row(11)", x.row(11), 12);
        Due.is("row(12)", x.row(12), NONE);
    }

    private static void judgedRefused() {
        Due.sentence("JUDGED; NONE. OUTSIDE: n, row (0 or more, 3 n figures at most).");
        ZoneBelt x = Due.told("Z20100c01");
        for (int n : new int[] {0, 5, -1, Integer.MIN_VALUE, Integer.MAX_VALUE}) {
            Due.is("judge(" + n + ", 101)", x.judge(n, 101L), OUTSIDE);
        }
        for (int n = 1; n <= 4; n++) {
            long most = n == 1 ? 999L : n == 2 ? 999999L : n == 3 ? 999999999L : 999999999999L;
            Due.is("judge(" + n + ", -1)", x.judge(n, -1L), OUTSIDE);
            Due.is("judge(" + n + ", least)", x.judge(n, Long.MIN_VALUE), OUTSIDE);
            Due.is("judge(" + n + ", most)", x.judge(n, Long.MAX_VALUE), OUTSIDE);
            Due.is("judge(" + n + ", one figure more)", x.judge(n, most + 1), OUTSIDE);
            Due.is("judge(" + n + ", all nines)", x.judge(n, most), 0);
            Due.is("judge(" + n + ", 0)", x.judge(n, 0L), 0);
        }
        Due.is("int's bits alone", x.judge(1, (1L << 32) + 101L), OUTSIDE);
    }

    private static void threeFiguresEach() {
        Due.sentence("n doings (1 to 4), told as three figures each (the first one's are the highest of row)");
        ZoneBelt x = Due.told("Z20100c01");
        Due.is("one", x.judge(1, 611L), NONE);
        Due.is("two", x.judge(2, 611101L), NONE);
        Due.is("three", x.judge(3, 611101610L), NONE);
        Due.is("four", x.judge(4, 611101610701L), NONE);
        Due.is("the highest first", x.judge(4, 101611610701L), 1);
        Due.is("noughts ahead are doings, too", x.judge(4, 611101610L), 0);
        Due.is("noughts behind, too", x.judge(2, 611000L), 1);
    }

    private static void judged(ZoneBelt x, int doing, int want) {
        Due.is("judge(1, " + doing + ")", x.judge(1, doing), want);
    }

    private static void stepsJudged() {
        Due.sentence("(1, two figures n: STEPS, 1 to 99;");
        ZoneBelt x = Due.told("Z80100c00");
        judged(x, 100, 0);
        judged(x, 101, NONE);
        judged(x, 199, NONE);
        Due.is("seven", x.judge(2, 107671L), NONE);
        Due.is("eight", x.judge(2, 108701L), NONE);
        Due.is("ninety-nine", x.judge(2, 199701L), NONE);
        Due.is("four times", x.judge(4, 103102102671L), NONE);
    }

    private static void fedJudged() {
        Due.sentence("2, 0, a LINE: FED;");
        ZoneBelt x = Due.told("Z21100");
        judged(x, 200, NONE);
        judged(x, 201, NONE);
        for (int doing : new int[] {202, 209, 210, 211, 220, 291}) {
            judged(x, doing, 0);
        }
        Due.is("twice", x.judge(2, 200200L), 1);
        Due.is("each line", x.judge(3, 200201611L), 2);
        Due.is("each line", x.judge(4, 200201601621L), NONE);
        ZoneBelt alone = Due.told("Z20100c00");
        judged(alone, 201, 0);
        judged(alone, 200, 0);
        Due.is("handed on, then fed", alone.judge(2, 101200L), NONE);
        ZoneBelt full = new ZoneBelt();
        for (int i = 1; i <= 98; i++) {
            full.feed(0);
            full.step(2);
        }
        Due.is("the 99th, and no more", full.judge(3, 200102200L), 2);
        Due.is("99 are out", full.judge(3, 200102799L), NONE);
    }

    private static void liftedJudged() {
        Due.sentence("3, 0, a figure z: ZONE z is LIFTED (it has a CARTON);");
        ZoneBelt x = Due.told("Z30100c00c02");
        judged(x, 300, NONE);
        judged(x, 302, NONE);
        for (int doing : new int[] {301, 303, 309, 310, 320, 312}) {
            judged(x, doing, 0);
        }
        Due.is("gone", x.judge(2, 302620L), NONE);
        Due.is("not out", x.judge(2, 302700L), NONE);
        Due.is("once only", x.judge(2, 302302L), 1);
    }

    private static void turnedJudged() {
        Due.sentence("4, 0, 0: TURNED;");
        ZoneBelt x = Due.told("Z20100c01");
        judged(x, 400, NONE);
        for (int doing : new int[] {401, 409, 410, 490, 499}) {
            judged(x, doing, 0);
        }
        Due.is("shut", x.judge(3, 400199611L), NONE);
        Due.is("shut and opened", x.judge(4, 400400101610L), NONE);
    }

    private static void eyedJudged() {
        Due.sentence("5, a figure z, 0 to 2: EYED;");
        ZoneBelt x = Due.told("Z20100c01");
        for (int doing : new int[] {500, 501, 502, 510, 511, 512}) {
            judged(x, doing, NONE);
        }
        for (int doing : new int[] {503, 509, 513, 519, 520, 522, 590}) {
            judged(x, doing, 0);
        }
        Due.is("dark", x.judge(3, 511199611L), NONE);
        Due.is("light", x.judge(3, 512101610L), NONE);
    }

    private static void cartonsJudged() {
        Due.sentence("6, a figure z, 1 or 0: ZONE z has a CARTON, or not;");
        ZoneBelt x = Due.told("Z20100c01");
        judged(x, 611, NONE);
        judged(x, 610, 0);
        judged(x, 600, NONE);
        judged(x, 601, 0);
        for (int doing : new int[] {602, 609, 612, 619, 620, 621, 690, 691}) {
            judged(x, doing, 0);
        }
        x.eye(0, 2);
        x.eye(1, 1);
        judged(x, 611, NONE);
        judged(x, 600, NONE);
    }

    private static void outJudged() {
        Due.sentence("7, two figures: so many are OUT in all;");
        ZoneBelt x = Due.told("Z20100c00c01");
        judged(x, 700, NONE);
        judged(x, 701, 0);
        judged(x, 799, 0);
        x.step(1);
        judged(x, 701, NONE);
        judged(x, 700, 0);
        Due.is("in all", x.judge(2, 102702L), NONE);
    }

    private static void jammedJudged() {
        Due.sentence("8, a figure z, 1 or 0: ZONE z is JAMMED, or not)");
        ZoneBelt x = Due.told("Z20100c00c01");
        x.eye(1, 1);
        judged(x, 800, NONE);
        judged(x, 801, 0);
        x.step(1);
        judged(x, 801, NONE);
        judged(x, 800, 0);
        judged(x, 810, NONE);
        for (int doing : new int[] {802, 809, 811, 812, 820, 821, 890}) {
            judged(x, doing, 0);
        }
        Due.is("lifted", x.judge(2, 300800L), NONE);
    }

    private static void noSuchDoing() {
        Due.sentence("the place of the first that can not be (or is not so); NONE: none.");
        ZoneBelt x = Due.told("Z20100c00c01");
        for (int doing : new int[] {0, 1, 10, 99, 900, 901, 950, 999}) {
            judged(x, doing, 0);
            Due.is("behind another", x.judge(2, 101000L + doing), 1);
            Due.is("behind three others", x.judge(4, 101101101000L + doing), 3);
        }
    }

    private static void aFigureIsAZone() {
        Due.sentence("(A figure z is ZONE 0 to 9.)");
        ZoneBelt x = Due.told("Z84100c09c10");
        judged(x, 691, NONE);
        judged(x, 690, 0);
        judged(x, 309, NONE);
        judged(x, 592, NONE);
        judged(x, 890, NONE);
        judged(x, 891, 0);
        Due.is("lifted from zone 9", x.judge(2, 309690L), NONE);
        ZoneBelt ten = Due.told("Z64100c09");
        judged(ten, 691, NONE);
        ZoneBelt nine = Due.told("Z54100c08");
        judged(nine, 681, NONE);
        for (int doing : new int[] {690, 691, 309, 590, 890}) {
            judged(nine, doing, 0);
        }
    }

    private static void doneFromThenOn() {
        Due.sentence("1 to 5 are done, from then on; 6 to 8 are asked as it is then.");
        ZoneBelt x = Due.told("Z30100c01");
        Due.is("asked, then done, then asked", x.judge(4, 611101610621L), NONE);
        Due.is("fed, then there", x.judge(2, 200601L), NONE);
        Due.is("asked changes nothing", x.judge(3, 611611611L), NONE);
        Due.is("all from now on again", x.judge(1, 611L), NONE);
        x.step(1);
        Due.is("as it is now", x.judge(2, 621610L), NONE);
    }

    private static void theFirstThatCanNotBe() {
        Due.sentence("Places (FAULT, JUDGED, OUT) are counted from 0 on.");
        ZoneBelt x = Due.told("Z30100c01");
        Due.is("the first", x.judge(4, 601601601601L), 0);
        Due.is("the second", x.judge(4, 600601601601L), 1);
        Due.is("the third", x.judge(4, 600600601601L), 2);
        Due.is("the fourth", x.judge(4, 600600600601L), 3);
        Due.is("none", x.judge(4, 600600600600L), NONE);
        Due.is("a carton's place", x.row(0), 1);
        Due.write(x, "z");
        Due.is("a letter's place", x.fault(), 0);
    }
}
