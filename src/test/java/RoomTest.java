import java.lang.management.ManagementFactory;

/** All calls of a run live in one room: an object makes its rows once, and no call makes any more. */
public final class RoomTest {
    private static final com.sun.management.ThreadMXBean ROOM =
        (com.sun.management.ThreadMXBean) ManagementFactory.getThreadMXBean();

    public static void main(String[] args) {
        calls(new ZoneBelt());
        calls(new ZoneBelt());
        ZoneBelt x = new ZoneBelt();
        long before = ROOM.getThreadAllocatedBytes(Thread.currentThread().getId());
        calls(x);
        long made = ROOM.getThreadAllocatedBytes(Thread.currentThread().getId()) - before;
        Due.is("bytes made by calls (" + made + "), too many", made > 4096 ? 1 : 0, 0);
        before = ROOM.getThreadAllocatedBytes(Thread.currentThread().getId());
        new ZoneBelt();
        made = ROOM.getThreadAllocatedBytes(Thread.currentThread().getId()) - before;
        Due.is("bytes of an object (" + made + "), too many", made > 12000 ? 1 : 0, 0);
        Due.end("RoomTest");
    }

    private static int calls(ZoneBelt x) {
        int sum = 0;
        for (int letter : new int[] {'Z', '8', '4', '3', '1', '2', 'c', '0', '1', 'c', '0', '9'}) {
            sum += x.write(letter);
        }
        sum += x.belt();
        for (int i = 0; i < 12; i++) {
            sum += x.feed(i % 2) + x.step(1 + i) + x.eye(i, i % 3) + x.turn() + x.make(i % 2, 1) + x.lift(i)
                + x.clear(i) + x.keep(i % 2) + x.see(i, 1, 1) + x.which() + x.ask(i % 3) + x.row(i)
                + x.share(i, true) + x.shut(8, 5, true) + x.drawn(40) + x.judge(4, 102200601700L) + x.ahead(99, i, 0)
                + x.count(i) + x.zone(i, 2) + x.undo() + x.fault() + (int) x.seed(4);
            if (i % 3 == 2) {
                sum += x.again(0) + x.unsee() + x.belt();
            }
        }
        return sum + x.wipe();
    }
}
