/** What the tests share: a count of wrong answers, and belts made of texts. */
final class Due {
    private static int asked = 0;
    private static int wrong = 0;
    private static String told = "";

    private Due() {
    }

    /** The sentence of the document that the next answers are held against, word by word. */
    static void sentence(String words) {
        told = words;
    }

    static void is(String call, long got, long want) {
        asked++;
        if (got != want) {
            wrong++;
            System.out.println(call + " answered " + got + ", due is " + want + (told.isEmpty() ? "" : " by: " + told));
        }
    }

    static void all(String calls, long[] got, long... want) {
        is(calls + " (how many)", got.length, want.length);
        for (int i = 0; i < got.length && i < want.length; i++) {
            is(calls + " [" + i + "]", got[i], want[i]);
        }
    }

    static void end(String test) {
        System.out.println(test + ": " + asked + " answers, " + wrong + " wrong");
        if (wrong != 0 || asked == 0) {
            System.exit(1);
        }
    }

    static void write(ZoneBelt belt, String text) {
        belt.wipe();
        for (int i = 0; i < text.length(); i++) {
            is("write in " + text, belt.write(text.charAt(i)), i + 1);
        }
    }

    static ZoneBelt told(String text) {
        ZoneBelt belt = new ZoneBelt();
        lay(belt, text);
        return belt;
    }

    static void lay(ZoneBelt belt, String text) {
        write(belt, text);
        is("belt of " + text, belt.belt(), text.charAt(1) - '0' + text.charAt(2) - '0');
    }

    /** What zone() tells of all zones, one row. */
    static long[] zones(ZoneBelt belt, int what) {
        long[] row = new long[belt.count(1) + belt.count(2)];
        for (int i = 0; i < row.length; i++) {
            row[i] = belt.zone(i, what);
        }
        return row;
    }

    static long[] counts(ZoneBelt belt) {
        long[] row = new long[15];
        for (int i = 0; i < row.length; i++) {
            row[i] = belt.count(i);
        }
        return row;
    }

    static void fraction(String call, int above, int below, int wantAbove, int wantBelow) {
        is(call + " above", above, wantAbove);
        is(call + " below", below, wantBelow);
    }
}
