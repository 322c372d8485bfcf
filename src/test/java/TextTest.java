/** Promises 2 to 5: write, wipe, fault, belt. */
public final class TextTest {
    private static final int NONE = ZoneBelt.NONE;

    public static void main(String[] args) {
        writing();
        faultsInTheHead();
        faultsInCartons();
        manyCartons();
        beltsToldAnew();
        refusedBelts();
        Due.end("TextTest");
    }

    private static void writing() {
        ZoneBelt x = new ZoneBelt();
        Due.is("write(-1)", x.write(-1), ZoneBelt.OUTSIDE);
        Due.is("write(256)", x.write(256), ZoneBelt.OUTSIDE);
        Due.is("count(0)", x.count(0), 0);
        Due.is("write(0)", x.write(0), 1);
        Due.is("write(255)", x.write(255), 2);
        for (int i = 3; i <= 40; i++) {
            Due.is("write", x.write('c'), i);
        }
        Due.is("the 41st", x.write('c'), ZoneBelt.FULL);
        Due.is("OUTSIDE ahead of FULL", x.write(256), ZoneBelt.OUTSIDE);
        Due.is("count(0)", x.count(0), 40);
        Due.is("wipe()", x.wipe(), 40);
        Due.is("wipe()", x.wipe(), 0);
        Due.is("write", x.write('c'), 1);
    }

    private static void fault(String text, int want) {
        ZoneBelt x = new ZoneBelt();
        Due.write(x, text);
        Due.is("fault of " + text, x.fault(), want);
        Due.is("the text stays", x.count(0), text.length());
    }

    private static void faultsInTheHead() {
        fault("", 0);
        fault("z", 0);
        fault("Z", 1);
        fault("Z1", 1);
        fault("Z9", 1);
        fault("Z8", 2);
        fault("Z85", 2);
        fault("Z84", 3);
        fault("Z840", 3);
        fault("Z848", 3);
        fault("Z847", 4);
        fault("Z202", 3);
        fault("Z201", 4);
        fault("Z2012", 4);
        fault("Z2011", 5);
        fault("Z2011:", 5);
        fault("Z2011/", 5);
        fault("Z20119", NONE);
        fault("Z20110", NONE);
        fault("Z 2011", 1);
        fault(" Z2011", 0);
        fault("ZZ2011c", 1);
        fault("Z" + (char) 2 + "0", 1);
    }

    private static void faultsInCartons() {
        fault("Z20100C", 6);
        fault("Z20100c", 7);
        fault("Z20100c0", 8);
        fault("Z20100c1", 7);
        fault("Z20100cc", 7);
        fault("Z20100c02", 8);
        fault("Z20100c0c", 8);
        fault("Z20100c00", NONE);
        fault("Z20100c00c00", 11);
        fault("Z20100c00c01", NONE);
        fault("Z20100c00c01c", 12);
        fault("Z20100c01 ", 9);
        fault("Z64300c1", 7);
        fault("Z64300c09", NONE);
        fault("Z74300c1", 8);
        fault("Z74300c10", NONE);
        fault("Z74300c11", 8);
        fault("Z84300c11", NONE);
        fault("Z84300c12", 8);
        fault("Z84300c2", 7);
        fault("Z84300c0:", 8);
        fault("Z84300c1/", 8);
        fault("Z84300c/1", 7);
        fault("Z84300c10c11c1", 13);
        fault("Z84300c10c11c0", 14);
        fault("Z74300c10c1", 10);
    }

    private static void manyCartons() {
        String ten = "c00c01c02c03c04c05c06c07c08c09";
        fault("Z82100" + ten, NONE);
        fault("Z82100" + ten + "c", 36);
        fault("Z83100" + ten + "c", 37);
        fault("Z83100" + ten + "c0", 37);
        fault("Z83100" + ten + "c1", 38);
        fault("Z83100" + ten + "c11", 38);
        fault("Z83100" + ten + "c10", NONE);
        fault("Z83100" + ten + "c10c", 39);
        // not at its end, though it can not grow longer: its length is set aside
        fault("Z84100" + ten + "c10c", 40);
        fault("Z84100" + ten + "c11", NONE);
    }

    private static void beltsToldAnew() {
        ZoneBelt x = Due.told("Z31100c03c00");
        Due.all("cartons as they are told", Due.zones(x, 0), 2, NONE, NONE, 1);
        x.eye(1, 1);
        x.make(1, 1);
        x.step(2);
        x.turn();
        x.keep(0);
        x.keep(1);
        x.see(3, 1, 0);
        x.seed(77);
        x.step(1);
        Due.lay(x, "Z62415c00c05c07c03");
        Due.all("counts", Due.counts(x), 18, 6, 2, 4, 1, 5, 1, 0, 4, 0, 0xa9, 0, 0, 0, 1);
        Due.all("cartons", Due.zones(x, 0), 1, NONE, NONE, 4, NONE, 2, NONE, 3);
        for (int what = 1; what < 7; what++) {
            if (what != 2) {
                Due.all("zones anew, " + what, Due.zones(x, what), 0, 0, 0, 0, 0, 0, 0, 0);
            }
        }
        Due.is("kept is gone", x.again(0), ZoneBelt.STATE);
        Due.is("kept is gone", x.again(1), ZoneBelt.STATE);
        Due.is("no acts", x.undo(), ZoneBelt.STATE);
        Due.is("the seed stays", x.seed(0), 77);
        Due.is("the next carton", x.feed(1), 5);
        x.step(1);
        // zones 3 and 7 feed zone 4: tickets are counted anew
        Due.is("the first ticket was used", x.zone(3, 6), 0);
        Due.is("the second ticket", x.zone(7, 6), 2);
        Due.is("the same text again", x.belt(), 8);
        Due.lay(x, "Z20100c01");
        Due.all("the old cartons are gone", Due.zones(x, 0), NONE, 1);
        Due.lay(x, "Z62415c00c05c07c03");
        Due.all("counts", Due.counts(x), 18, 6, 2, 4, 1, 5, 1, 0, 4, 0, 0xa9, 0, 0, 0, 1);
    }

    private static void refusedBelts() {
        ZoneBelt x = Due.told("Z30100c01");
        x.step(1);
        x.keep(0);
        x.wipe();
        Due.is("belt of nothing", x.belt(), ZoneBelt.STATE);
        Due.write(x, "Z2010");
        Due.is("belt not at its end", x.belt(), ZoneBelt.STATE);
        Due.write(x, "Z20100c02");
        Due.is("belt with a fault", x.belt(), ZoneBelt.STATE);
        Due.all("all as it was", Due.counts(x), 9, 3, 0, 1, 0, 0, 1, 1, 1, 0, 4, 0, 0, 1, 0);
        Due.is("kept as it was", x.again(0), 1);
    }
}
