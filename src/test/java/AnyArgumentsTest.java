import java.util.Random;

/** No call throws, whatever its arguments, and what is refused changes nothing. */
public final class AnyArgumentsTest {
    private static final int[] NUMBERS = {Integer.MIN_VALUE, Integer.MIN_VALUE + 1, -1000, -33, -32, -1, 0, 1, 2, 3, 5, 7,
        8, 9, 11, 12, 14, 20, 31, 32, 33, 60, 61, 64, 99, 100, 255, 256, 1 << 16, Integer.MAX_VALUE - 1,
        Integer.MAX_VALUE};
    private static final long[] LONGS = {Long.MIN_VALUE, -1L, 0L, 101L, 999L, 1000L, 101200L, 999999999999L,
        1000000000000L, Long.MAX_VALUE};

    public static void main(String[] args) {
        Random dice = new Random(4711);
        for (int run = 0; run < 300; run++) {
            ZoneBelt x = run % 3 == 0 ? new ZoneBelt() : Due.told(run % 3 == 1 ? "Z84112c00c03c11" : "Z32215c01c04");
            for (int i = 0; i < 200; i++) {
                long[] before = Due.counts(x);
                int call = dice.nextInt(27);
                long answer = call(x, call, dice);
                boolean refused = answer < 0 && answer >= -4 && call != 19 && call != 20 && call != 22;
                if (refused) {
                    Due.all("refused, call " + call, Due.counts(x), before);
                }
            }
        }
        Due.end("AnyArgumentsTest");
    }

    private static int any(Random dice) {
        return NUMBERS[dice.nextInt(NUMBERS.length)];
    }

    private static long call(ZoneBelt x, int call, Random dice) {
        int a = any(dice);
        int b = any(dice);
        int c = any(dice);
        long v = LONGS[dice.nextInt(LONGS.length)];
        switch (call) {
            case 0: return x.write(a);
            case 1: return x.wipe();
            case 2: return x.fault();
            case 3: return x.belt();
            case 4: return x.zone(a, b);
            case 5: return x.feed(a);
            case 6: return x.lift(a);
            case 7: return x.turn();
            case 8: return x.eye(a, b);
            case 9: return x.make(a, b);
            case 10: return x.clear(a);
            case 11: return x.step(a);
            case 12: return x.undo();
            case 13: return x.ahead(a, b, c);
            case 14: return x.ask(a);
            case 15: return x.row(a);
            case 16: return x.judge(a, v);
            case 17: return x.see(a, b, c);
            case 18: return x.unsee();
            case 19: return x.which();
            case 20: return x.share(a, dice.nextBoolean());
            case 21: return x.shut(a, b, dice.nextBoolean());
            case 22: return x.seed(v);
            case 23: return x.drawn(a);
            case 24: return x.keep(a);
            case 25: return x.again(a);
            default: return x.count(a);
        }
    }
}
