/** Promises 1 (a new object) and 28 (count). */
public final class NewAndCountTest {
    public static void main(String[] args) {
        aNewObject();
        eachCount();
        Due.end("NewAndCountTest");
    }

    private static void aNewObject() {
        ZoneBelt x = new ZoneBelt();
        Due.all("counts at first", Due.counts(x), 0, 2, 0, 1, 0, 0, 1, 0, 0, 0, 0, 0, 0, 0, 0);
        for (int zone = 0; zone < 2; zone++) {
            Due.is("carton at first", x.zone(zone, 0), ZoneBelt.NONE);
            for (int what = 1; what < 7; what++) {
                Due.is("zone at first, " + what, x.zone(zone, what), 0);
            }
        }
        Due.is("a third zone", x.zone(2, 0), ZoneBelt.UNKNOWN);
        Due.is("seed at first", x.seed(5), 0);
        Due.is("nothing to undo", x.undo(), ZoneBelt.STATE);
        Due.is("nothing kept", x.again(0), ZoneBelt.STATE);
        Due.is("nothing kept", x.again(1), ZoneBelt.STATE);
        Due.is("two objects are two", new ZoneBelt().seed(1), 0);
    }

    private static void eachCount() {
        ZoneBelt x = Due.told("Z52313c00c06");
        Due.all("counts of a belt told", Due.counts(x), 12, 5, 2, 3, 1, 3, 1, 0, 2, 0, 65, 0, 0, 0, 0);
        x.turn();
        x.step(3);
        x.see(1, 1, 1);
        // carton 2 came from zone 6 to 3 and 4, carton 1 to 3 behind it; 0, 5 and 6 were idle three times
        Due.all("counts behind three steps", Due.counts(x), 12, 5, 2, 3, 1, 3, 0, 3, 2, 0, 24, 0, 97, 2, 1);
        x.turn();
        x.step(1);
        Due.is("out", x.count(9), 1);
        Due.is("count(-1)", x.count(-1), ZoneBelt.OUTSIDE);
        Due.is("count(15)", x.count(15), ZoneBelt.OUTSIDE);
        Due.is("count(least)", x.count(Integer.MIN_VALUE), ZoneBelt.OUTSIDE);
        Due.is("count(most)", x.count(Integer.MAX_VALUE), ZoneBelt.OUTSIDE);
    }
}
