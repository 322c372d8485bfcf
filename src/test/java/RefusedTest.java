import java.util.ArrayList;
import java.util.List;

/** What is refused changes nothing: an object that was refused something tells all that one tells that was not. */
public final class RefusedTest {
    private interface Call {
        long on(ZoneBelt x);
    }

    public static void main(String[] args) {
        Due.sentence("What is refused changes nothing.");
        acts();
        texts();
        asked();
        fullOnes();
        Due.end("RefusedTest");
    }

    /** A belt with a jam, some asleep, tickets taken, eyes of each kind, both slots kept and two things seen. */
    private static ZoneBelt rich() {
        ZoneBelt x = Due.told("Z42213c00c01c02c05");
        x.keep(1);
        x.eye(2, 1);
        x.eye(4, 2);
        x.step(4);
        x.turn();
        x.step(1);
        x.make(1, 4);
        x.keep(0);
        x.see(1, 0, 1);
        x.see(3, 2, 0);
        x.seed(99);
        x.write('c');
        return x;
    }

    private static void fill(ZoneBelt x, List<Long> row) {
        for (long count : Due.counts(x)) {
            row.add(count);
        }
        for (int what = 0; what <= 6; what++) {
            for (long fact : Due.zones(x, what)) {
                row.add(fact);
            }
        }
    }

    /** All that an object tells, what can be undone and gone on from as well. */
    private static long[] story(ZoneBelt x) {
        List<Long> row = new ArrayList<>();
        fill(x, row);
        row.add((long) x.fault());
        row.add((long) x.which());
        row.add(x.seed(5));
        row.add((long) x.feed(1));
        row.add((long) x.undo());
        int left = x.count(13);
        for (int i = 0; i <= left; i++) {
            row.add((long) x.undo());
            row.add((long) x.count(7));
            row.add((long) x.count(10));
            row.add((long) x.count(6));
        }
        for (int slot = 0; slot <= 1; slot++) {
            row.add((long) x.again(slot));
            fill(x, row);
        }
        row.add((long) x.step(3));
        fill(x, row);
        long[] told = new long[row.size()];
        for (int i = 0; i < told.length; i++) {
            told[i] = row.get(i);
        }
        return told;
    }

    private static void refused(String call, int want, Call made) {
        ZoneBelt x = rich();
        Due.is(call, made.on(x), want);
        Due.all(call + ", the story behind it", story(x), story(rich()));
    }

    private static void acts() {
        refused("feed(2)", ZoneBelt.UNKNOWN, x -> x.feed(2));
        refused("feed(-1)", ZoneBelt.UNKNOWN, x -> x.feed(-1));
        refused("feed(0)", ZoneBelt.STATE, x -> x.feed(0));
        refused("lift(6)", ZoneBelt.UNKNOWN, x -> x.lift(6));
        refused("lift(4)", ZoneBelt.STATE, x -> x.lift(4));
        refused("eye(6, 0)", ZoneBelt.UNKNOWN, x -> x.eye(6, 0));
        refused("eye(0, 3)", ZoneBelt.OUTSIDE, x -> x.eye(0, 3));
        refused("eye(0, -1)", ZoneBelt.OUTSIDE, x -> x.eye(0, -1));
        refused("make(0, 2)", ZoneBelt.OUTSIDE, x -> x.make(0, 2));
        refused("make(1, 10)", ZoneBelt.OUTSIDE, x -> x.make(1, 10));
        refused("make(2, 0)", ZoneBelt.OUTSIDE, x -> x.make(2, 0));
        refused("make(-1, 0)", ZoneBelt.OUTSIDE, x -> x.make(-1, 0));
        refused("clear(6)", ZoneBelt.UNKNOWN, x -> x.clear(6));
        refused("clear(2)", ZoneBelt.STATE, x -> x.clear(2));
        refused("step(0)", ZoneBelt.OUTSIDE, x -> x.step(0));
        refused("step(100)", ZoneBelt.OUTSIDE, x -> x.step(100));
    }

    private static void texts() {
        refused("write(256)", ZoneBelt.OUTSIDE, x -> x.write(256));
        refused("write(-1)", ZoneBelt.OUTSIDE, x -> x.write(-1));
        refused("belt()", ZoneBelt.STATE, x -> x.belt());
        refused("zone(6, 0)", ZoneBelt.UNKNOWN, x -> x.zone(6, 0));
        refused("zone(0, 7)", ZoneBelt.OUTSIDE, x -> x.zone(0, 7));
        refused("keep(2)", ZoneBelt.UNKNOWN, x -> x.keep(2));
        refused("again(2)", ZoneBelt.UNKNOWN, x -> x.again(2));
        refused("again(-1)", ZoneBelt.UNKNOWN, x -> x.again(-1));
        refused("count(15)", ZoneBelt.OUTSIDE, x -> x.count(15));
    }

    private static void asked() {
        refused("ahead(1, 6, 0)", ZoneBelt.UNKNOWN, x -> x.ahead(1, 6, 0));
        refused("ahead(100, 0, 0)", ZoneBelt.OUTSIDE, x -> x.ahead(100, 0, 0));
        refused("ask(3)", ZoneBelt.OUTSIDE, x -> x.ask(3));
        refused("row(-1)", ZoneBelt.NONE, x -> x.row(-1));
        refused("judge(0, 0)", ZoneBelt.OUTSIDE, x -> x.judge(0, 0L));
        refused("judge(1, 1000)", ZoneBelt.OUTSIDE, x -> x.judge(1, 1000L));
        refused("judge(4, ..)", 3, x -> x.judge(4, 400150512999L));
        refused("see(31, 0, 0)", ZoneBelt.OUTSIDE, x -> x.see(31, 0, 0));
        refused("see(0, 0, 2)", ZoneBelt.OUTSIDE, x -> x.see(0, 0, 2));
        refused("share(6, true)", ZoneBelt.UNKNOWN, x -> x.share(6, true));
        refused("share(0, true)", ZoneBelt.STATE, x -> x.share(0, true));
        refused("shut(9, 0, true)", ZoneBelt.OUTSIDE, x -> x.shut(9, 0, true));
        refused("shut(1, 11, true)", ZoneBelt.OUTSIDE, x -> x.shut(1, 11, true));
        refused("drawn(0)", ZoneBelt.OUTSIDE, x -> x.drawn(0));
        refused("drawn(41)", ZoneBelt.OUTSIDE, x -> x.drawn(41));
    }

    /** A text of 40 letters, six things seen, 99 fed, no act to undo, nothing kept. */
    private static ZoneBelt full() {
        ZoneBelt x = new ZoneBelt();
        for (int i = 1; i <= 99; i++) {
            x.feed(0);
            x.step(2);
        }
        for (int i = 0; i < 14; i++) {
            x.undo();
        }
        for (int i = 0; i < 7; i++) {
            x.feed(0);
            x.step(2);
        }
        for (int i = 0; i < 40; i++) {
            x.write('Z');
        }
        for (int i = 0; i < 6; i++) {
            x.see(i, 99, 1);
        }
        return x;
    }

    private static void refusedByAFull(String call, int want, Call made) {
        ZoneBelt x = full();
        Due.is(call, made.on(x), want);
        Due.all(call + ", the story behind it", story(x), story(full()));
    }

    private static void fullOnes() {
        refusedByAFull("write('Z')", ZoneBelt.FULL, x -> x.write('Z'));
        refusedByAFull("see(0, 0, 0)", ZoneBelt.FULL, x -> x.see(0, 0, 0));
        refusedByAFull("feed(0)", ZoneBelt.FULL, x -> x.feed(0));
        refusedByAFull("again(0)", ZoneBelt.STATE, x -> x.again(0));
        refusedByAFull("again(1)", ZoneBelt.STATE, x -> x.again(1));
        Due.is("nothing to undo", new ZoneBelt().undo(), ZoneBelt.STATE);
        ZoneBelt x = new ZoneBelt();
        x.undo();
        Due.all("the story behind it", story(x), story(new ZoneBelt()));
    }
}
