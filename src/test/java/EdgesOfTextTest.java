/** Each sentence about THE TEXT, a BELT told by it and its FAULT that names an edge: promises 2 to 5. */
public final class EdgesOfTextTest {
    private static final int NONE = ZoneBelt.NONE;
    private static final String TEN = "c00c01c02c03c04c05c06c07c08c09";

    public static void main(String[] args) {
        lettersFrom0To255();
        neverMoreThan40();
        wipedOnlyOnce();
        headsLetterByLetter();
        meetingPlaces();
        cartonsLetterByLetter();
        zonesThatAreThere();
        zonesThatHaveOne();
        noRoomForAnother();
        firstFigures();
        lengthSetAside();
        onlyNotAtItsEnd();
        noBlanks();
        faultsAsked();
        howManyZones();
        whatABeltSetsBack();
        whatABeltLeaves();
        refusedByAFault();
        numbersAsTheyAreTold();
        Due.end("EdgesOfTextTest");
    }

    private static int fault(String text) {
        ZoneBelt x = new ZoneBelt();
        Due.write(x, text);
        return x.fault();
    }

    private static void faultIs(String text, int want) {
        Due.is("fault of " + text, fault(text), want);
    }

    private static void lettersFrom0To255() {
        Due.sentence("A letter (0 to 255) comes behind THE TEXT: how long it is.");
        ZoneBelt x = new ZoneBelt();
        Due.is("write(0)", x.write(0), 1);
        Due.is("write(255)", x.write(255), 2);
        Due.is("write(-1)", x.write(-1), ZoneBelt.OUTSIDE);
        Due.is("write(256)", x.write(256), ZoneBelt.OUTSIDE);
        Due.is("write(least)", x.write(Integer.MIN_VALUE), ZoneBelt.OUTSIDE);
        Due.is("write(most)", x.write(Integer.MAX_VALUE), ZoneBelt.OUTSIDE);
        Due.is("write('Z' + 256)", x.write('Z' + 256), ZoneBelt.OUTSIDE);
        Due.is("how long", x.count(0), 2);
    }

    private static void neverMoreThan40() {
        Due.sentence("OUTSIDE; FULL: there are 40.");
        ZoneBelt x = new ZoneBelt();
        for (int i = 1; i <= 40; i++) {
            Due.is("write", x.write('0'), i);
        }
        Due.is("the 41st", x.write('0'), ZoneBelt.FULL);
        Due.is("the 41st, no letter", x.write(-1), ZoneBelt.OUTSIDE);
        Due.is("the 41st, no letter", x.write(256), ZoneBelt.OUTSIDE);
        Due.is("how long", x.count(0), 40);
        Due.is("wipe()", x.wipe(), 40);
        for (int i = 1; i <= 40; i++) {
            Due.is("write anew", x.write('0'), i);
        }
        Due.is("the 41st anew", x.write('0'), ZoneBelt.FULL);
    }

    private static void wipedOnlyOnce() {
        Due.sentence("THE TEXT is empty: how long it was.");
        ZoneBelt x = new ZoneBelt();
        Due.is("wipe() at first", x.wipe(), 0);
        x.write('Z');
        Due.is("wipe() of one", x.wipe(), 1);
        Due.is("wipe() of none", x.wipe(), 0);
        Due.is("how long", x.count(0), 0);
        Due.is("the fault of none", x.fault(), 0);
    }

    /** Each of 256 letters behind a text without a fault: the fault is here, or the text is only not at its end. */
    private static void anyLetterBehind(String text, String allowed) {
        for (int letter = 0; letter < 256; letter++) {
            String longer = text + (char) letter;
            boolean fine = allowed.indexOf(letter) >= 0;
            boolean whole = fine && longer.length() >= 6 && longer.length() % 3 == 0;
            faultIs(longer, whole ? NONE : fine ? text.length() + 1 : text.length());
        }
    }

    private static void headsLetterByLetter() {
        Due.sentence("A BELT is a TEXT: Z, M (2 to 8), S (0 to 4), J (1 to M less 1), TRAIN (0, 1), REST (a figure), "
            + "then CARTONS, none or more: c, a ZONE");
        anyLetterBehind("", "Z");
        anyLetterBehind("Z", "2345678");
        for (int m = 2; m <= 8; m++) {
            anyLetterBehind("Z" + m, "01234");
        }
        anyLetterBehind("Z201", "01");
        anyLetterBehind("Z847", "01");
        anyLetterBehind("Z2010", "0123456789");
        anyLetterBehind("Z8471", "0123456789");
        anyLetterBehind("Z20100", "c");
        anyLetterBehind("Z84719", "c");
    }

    private static void meetingPlaces() {
        Due.sentence("behind the last one of LINE 1 ZONE J (1 to M less 1; 1 at first).");
        for (int m = 2; m <= 8; m++) {
            for (int s = 0; s <= 4; s++) {
                anyLetterBehind("Z" + m + s, "1234567".substring(0, m - 1));
            }
        }
    }

    private static void cartonsLetterByLetter() {
        Due.sentence("c, a ZONE (two figures; one that is there and has none yet");
        anyLetterBehind("Z20100c", "0");
        anyLetterBehind("Z20100c0", "01");
        anyLetterBehind("Z64100c", "0");
        anyLetterBehind("Z64100c0", "0123456789");
        anyLetterBehind("Z74100c", "01");
        anyLetterBehind("Z74100c1", "0");
        anyLetterBehind("Z84100c", "01");
        anyLetterBehind("Z84100c1", "01");
        anyLetterBehind("Z84100c10", "c");
        anyLetterBehind("Z84100c10c1", "1");
        anyLetterBehind("Z84100c11c1", "0");
        anyLetterBehind("Z84100c10c11c", "0");
        anyLetterBehind("Z84100c05c07c0", "01234689");
    }

    private static String two(int zone) {
        return (zone < 10 ? "0" : "") + zone;
    }

    private static void zonesThatAreThere() {
        Due.sentence("one that is there and has none yet");
        for (int m = 2; m <= 8; m++) {
            for (int s = 0; s <= 4; s++) {
                String head = "Z" + m + s + "100";
                faultIs(head + "c" + two(m + s - 1), NONE);
                // with nine zones or less, or ten, the first figure of 10 is the fault
                faultIs(head + "c" + two(m + s), m + s == 10 ? 7 : 8);
                faultIs(head + "c13", m + s > 10 ? 8 : 7);
                faultIs(head + "c99", 7);
            }
        }
    }

    private static void zonesThatHaveOne() {
        Due.sentence("has none yet; so numbers are given as they are told, all EYES are SOUND");
        for (int zone = 0; zone < 12; zone++) {
            String text = "Z84100c" + two(zone);
            faultIs(text, NONE);
            faultIs(text + "c" + two(zone), 11);
            faultIs(text + "c" + two((zone + 1) % 12), NONE);
            // behind c10 and c11 there is no zone any more that a 1 could begin
            faultIs(text + "c" + two((zone + 1) % 12) + "c" + two(zone), zone == 10 ? 13 : 14);
        }
    }

    private static void noRoomForAnother() {
        Due.sentence("so a c where all ZONES have CARTONS");
        for (int m = 2; m <= 8; m++) {
            for (int s = 0; s <= 4 && m + s < 12; s++) {
                StringBuilder upwards = new StringBuilder("Z" + m + s + "100");
                StringBuilder downwards = new StringBuilder("Z" + m + s + "100");
                for (int zone = 0; zone < m + s; zone++) {
                    faultIs(upwards + "c", upwards.length() + 1);
                    upwards.append("c").append(two(zone));
                    downwards.append("c").append(two(m + s - 1 - zone));
                }
                faultIs(upwards.toString(), NONE);
                faultIs(upwards + "c", upwards.length());
                faultIs(downwards.toString(), NONE);
                faultIs(downwards + "c", downwards.length());
            }
        }
    }

    private static void firstFigures() {
        Due.sentence("a first figure by which all that there could be have CARTONS");
        faultIs("Z83100c10c1", 10);
        faultIs("Z83100c09c1", 11);
        faultIs("Z84100c10c1", 11);
        faultIs("Z84100c10c11c1", 13);
        faultIs("Z84100c11c10c1", 13);
        faultIs("Z83100" + TEN + "c0", 37);
        faultIs("Z83100" + TEN + "c1", 38);
        faultIs("Z84100" + TEN + "c0", 37);
        faultIs("Z84100" + TEN + "c1", 38);
        faultIs("Z84100c10" + TEN.substring(3) + "c0", 38);
    }

    private static void lengthSetAside() {
        Due.sentence("whatever came behind it (its length set aside;");
        // twelve cartons would be 42 letters: the forty that there can be are not at fault for that
        faultIs("Z84100" + TEN + "c10", NONE);
        faultIs("Z84100" + TEN + "c10c", 40);
        faultIs("Z84100" + TEN + "c1", 38);
        ZoneBelt x = new ZoneBelt();
        Due.write(x, "Z84100" + TEN + "c10c");
        Due.is("no more room", x.write('1'), ZoneBelt.FULL);
        Due.is("no belt", x.belt(), ZoneBelt.STATE);
    }

    private static void onlyNotAtItsEnd() {
        Due.sentence("its length, if it is only not at its end; NONE: none.");
        String text = "Z84712c11c00c10";
        for (int length = 0; length <= text.length(); length++) {
            boolean whole = length >= 6 && length % 3 == 0;
            faultIs(text.substring(0, length), whole ? NONE : length);
        }
        // a fault stays where it is, whatever comes behind it
        for (int length = 9; length <= 12; length++) {
            faultIs("Z20100c02c00".substring(0, length), 8);
        }
    }

    private static void noBlanks() {
        Due.sentence("(Without blanks.)");
        String text = "Z20100c01";
        for (int place = 0; place <= text.length(); place++) {
            faultIs(text.substring(0, place) + " " + text.substring(place), place);
        }
    }

    private static void faultsAsked() {
        Due.sentence("FAULT; NONE.");
        ZoneBelt x = new ZoneBelt();
        Due.is("of no text", x.fault(), 0);
        Due.write(x, "Z20100");
        Due.is("of a belt", x.fault(), NONE);
        Due.is("asked again", x.fault(), NONE);
        x.write('c');
        Due.is("not at its end", x.fault(), 7);
        x.write('c');
        Due.is("by the eighth letter", x.fault(), 7);
        Due.is("the text stays", x.count(0), 8);
        x.wipe();
        Due.is("of no text", x.fault(), 0);
    }

    private static void howManyZones() {
        Due.sentence("how many ZONES. STATE: a FAULT.");
        for (int m = 2; m <= 8; m++) {
            for (int s = 0; s <= 4; s++) {
                ZoneBelt x = Due.told("Z" + m + s + (m - 1) + "19");
                Due.is("M", x.count(1), m);
                Due.is("S", x.count(2), s);
                Due.is("J", x.count(3), m - 1);
                Due.is("TRAIN", x.count(4), 1);
                Due.is("REST", x.count(5), 9);
                Due.is("no cartons", x.count(8) + x.count(10), 0);
                Due.is("the last zone", x.zone(m + s - 1, 0), NONE);
                Due.is("one more", x.zone(m + s, 0), ZoneBelt.UNKNOWN);
                Due.is("the text stays as it is", x.count(0), 6);
            }
        }
    }

    private static ZoneBelt used() {
        ZoneBelt x = Due.told("Z32113c00c01c04");
        x.eye(1, 1);
        x.step(1);
        x.eye(2, 2);
        x.step(1);
        x.feed(0);
        x.lift(1);
        x.step(20);
        x.turn();
        x.keep(0);
        x.keep(1);
        x.see(2, 1, 1);
        x.seed(5);
        return x;
    }

    private static void whatABeltSetsBack() {
        Due.sentence("(THE EXIT open, THE CLOCK, all IDLE, TICKETS 0; THE ROW of ACTS is empty, what was kept is gone;");
        ZoneBelt x = used();
        Due.lay(x, "Z84100c11");
        Due.all("counts", Due.counts(x), 9, 8, 4, 1, 0, 0, 1, 0, 1, 0, 2048, 0, 0, 0, 1);
        for (int what : new int[] {1, 3, 4, 5, 6}) {
            Due.all("zone(.., " + what + ")", Due.zones(x, what), 0, 0, 0, 0, 0, 0, 0, 0, 0, 0, 0, 0);
        }
        Due.is("again(0)", x.again(0), ZoneBelt.STATE);
        Due.is("again(1)", x.again(1), ZoneBelt.STATE);
        Due.is("undo()", x.undo(), ZoneBelt.STATE);
        x.eye(1, 2);
        x.step(1);
        Due.is("tickets from 1 on", x.zone(11, 6), 1);
    }

    private static void whatABeltLeaves() {
        Due.sentence("SEEN, THE SEED stay)");
        ZoneBelt x = used();
        Due.lay(x, "Z20100c01");
        Due.is("seen", x.count(14), 1);
        // by zone 0 dark the carton goes out of zone 1, by zone 1 dark it does not
        Due.is("which()", x.which(), 1);
        Due.is("the seed", x.seed(0), 5);
        Due.is("the text", x.count(0), 9);
        Due.is("the same belt again", x.belt(), 2);
        Due.is("its fault", x.fault(), NONE);
    }

    private static void refusedByAFault() {
        Due.sentence("STATE: a FAULT.");
        String[] texts = {"", "Z", "Z2010", "Z20100c", "Z20100c0", "Z20100c02", "Z20100c01c01", "Z10100", "z20100"};
        for (String text : texts) {
            ZoneBelt x = used();
            long[] counts = Due.counts(x);
            counts[0] = text.length();
            Due.write(x, text);
            Due.is("belt of " + text, x.belt(), ZoneBelt.STATE);
            Due.all("nothing changed", Due.counts(x), counts);
            Due.is("kept", x.again(1), 22);
        }
    }

    private static void numbersAsTheyAreTold() {
        Due.sentence("CARTONS told by a text count as FED.");
        ZoneBelt x = Due.told("Z84100c10c09c08c07c06c05c04c03c02c01c00");
        Due.all("numbers", Due.zones(x, 0), 11, 10, 9, 8, 7, 6, 5, 4, 3, 2, 1, NONE);
        Due.is("fed", x.count(8), 11);
        Due.is("zones that have some", x.count(10), 2047);
        x.lift(0);
        Due.is("the next one", x.feed(0), 12);
    }
}
