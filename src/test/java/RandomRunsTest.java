import java.util.Random;

/** Runs of calls by chance, always the same ones, on a ZoneBelt and on the Model: both answer alike. */
public final class RandomRunsTest {
    private static final int CALLS = 26;

    private final Random dice;
    private final ZoneBelt belt = new ZoneBelt();
    private final Model model = new Model();
    private final StringBuilder told = new StringBuilder();
    private final int run;
    private int made = 0;
    private boolean wrong = false;

    private RandomRunsTest(int run) {
        this.run = run;
        this.dice = new Random(run * 7919L + 13);
    }

    public static void main(String[] args) {
        int runs = args.length > 0 ? Integer.parseInt(args[0]) : 400;
        for (int run = 0; run < runs; run++) {
            RandomRunsTest test = new RandomRunsTest(run);
            test.play();
            Due.is("run " + run, test.wrong ? 1 : 0, 0);
        }
        Due.end("RandomRunsTest");
    }

    private void same(String call, long got, long want) {
        made++;
        told.append(call).append(" = ").append(got).append('\n');
        if (got != want && !wrong) {
            wrong = true;
            System.out.println("run " + run + ":\n" + told + "due is " + want);
        }
    }

    private void play() {
        if (dice.nextInt(8) > 0) {
            text(true);
        }
        while (made < 460 && !wrong) {
            int turns = 1 + dice.nextInt(4);
            for (int i = 0; i < turns; i++) {
                act();
            }
            ask(dice.nextInt(CALLS));
            if (dice.nextInt(60) == 0) {
                text(dice.nextInt(3) > 0);
            }
        }
        for (int what = -1; what < 16; what++) {
            same("count(" + what + ")", belt.count(what), model.count(what));
        }
    }

    private void write(int letter) {
        same("write(" + letter + ")", belt.write(letter), model.write(letter));
    }

    private void text(boolean right) {
        same("wipe()", belt.wipe(), model.wipe());
        int m = 2 + dice.nextInt(7);
        int s = dice.nextInt(5);
        StringBuilder letters = new StringBuilder("Z").append(m).append(s).append(1 + dice.nextInt(m - 1))
            .append(dice.nextInt(2)).append(dice.nextInt(3) == 0 ? 0 : dice.nextInt(10));
        int cartons = dice.nextInt(12);
        for (int i = 0; i < cartons; i++) {
            int z = dice.nextInt(m + s);
            String one = "c" + z / 10 + z % 10;
            if (!right || letters.indexOf(one) < 0) {
                letters.append(one);
            }
        }
        if (!right && dice.nextInt(2) == 0) {
            int place = dice.nextInt(letters.length());
            letters.setCharAt(place, "Zc0123456789x".charAt(dice.nextInt(13)));
        }
        if (!right && dice.nextInt(2) == 0) {
            letters.setLength(dice.nextInt(letters.length()));
        }
        for (int i = 0; i < letters.length(); i++) {
            write(letters.charAt(i));
        }
        same("fault()", belt.fault(), model.fault());
        same("belt()", belt.belt(), model.belt());
    }

    private int someZone() {
        int zones = model.now.m + model.now.s;
        return dice.nextInt(25) == 0 ? dice.nextInt(16) - 2 : dice.nextInt(zones);
    }

    /** A number from least to most, now and then one beside it. */
    private int number(int least, int most) {
        return dice.nextInt(25) == 0 ? (dice.nextBoolean() ? least - 1 : most + 1)
            : least + dice.nextInt(most - least + 1);
    }

    private void act() {
        int zone = someZone();
        switch (dice.nextInt(12)) {
            case 0, 1, 2 -> {
                int line = number(0, 1);
                same("feed(" + line + ")", belt.feed(line), model.feed(line));
            }
            case 3 -> same("lift(" + zone + ")", belt.lift(zone), model.lift(zone));
            case 4 -> {
                if (dice.nextInt(3) == 0) {
                    same("turn()", belt.turn(), model.turn());
                }
            }
            case 5 -> {
                int eye = number(0, 2);
                same("eye(" + zone + ", " + eye + ")", belt.eye(zone, eye), model.eye(zone, eye));
            }
            case 6 -> {
                int what = number(0, 1);
                int v = number(0, what == 0 ? 1 : 9);
                same("make(" + what + ", " + v + ")", belt.make(what, v), model.make(what, v));
            }
            case 7 -> {
                for (int z = 0; z < 12; z++) {
                    if ((model.count(11) >> z & 1) == 1 && dice.nextInt(2) == 0) {
                        zone = z;
                    }
                }
                same("clear(" + zone + ")", belt.clear(zone), model.clear(zone));
            }
            case 8, 9, 10 -> {
                int n = dice.nextInt(8) == 0 ? number(1, 99) : 1 + dice.nextInt(3);
                same("step(" + n + ")", belt.step(n), model.step(n));
            }
            default -> {
                if (dice.nextInt(3) == 0) {
                    same("undo()", belt.undo(), model.undo());
                }
            }
        }
    }

    private void ask(int which) {
        int zone = someZone();
        boolean upper = dice.nextBoolean();
        switch (which) {
            case 0, 1, 2 -> allZones();
            case 3, 4 -> {
                int what = number(0, 6);
                same("zone(" + zone + ", " + what + ")", belt.zone(zone, what), model.zone(zone, what));
            }
            case 5, 6 -> {
                int n = dice.nextInt(3) == 0 ? number(0, 99) : dice.nextInt(9);
                int what = number(0, 6);
                same("ahead(" + n + ", " + zone + ", " + what + ")", belt.ahead(n, zone, what),
                    model.ahead(n, zone, what));
            }
            case 7, 8 -> {
                int what = number(0, 2);
                same("ask(" + what + ")", belt.ask(what), model.ask(what));
            }
            case 9 -> {
                int place = number(0, 6);
                same("row(" + place + ")", belt.row(place), model.row(place));
            }
            case 10, 11, 12 -> judge();
            case 13, 14 -> {
                int n = number(0, 30);
                int v = dice.nextInt(4) == 0 ? number(0, 99) : Math.min(99, model.count(9) + dice.nextInt(3));
                int was = number(0, 1);
                same("see(" + n + ", " + v + ", " + was + ")", belt.see(n, v, was), model.see(n, v, was));
            }
            case 15 -> {
                if (dice.nextInt(3) == 0) {
                    same("unsee()", belt.unsee(), model.unsee());
                }
            }
            case 16, 17 -> same("which()", belt.which(), model.which());
            case 18, 19 -> same("share(" + zone + ", " + upper + ")", belt.share(zone, upper),
                model.share(zone, upper));
            case 20 -> {
                int n = number(1, 8);
                int x = number(0, 10);
                same("shut(" + n + ", " + x + ", " + upper + ")", belt.shut(n, x, upper), model.shut(n, x, upper));
            }
            case 21 -> {
                long v = dice.nextLong();
                same("seed(" + v + ")", belt.seed(v), model.seed(v));
            }
            case 22 -> {
                int m = number(1, 40);
                same("drawn(" + m + ")", belt.drawn(m), model.drawn(m));
            }
            case 23 -> {
                int slot = number(0, 1);
                same("keep(" + slot + ")", belt.keep(slot), model.keep(slot));
            }
            case 24 -> {
                int slot = number(0, 1);
                if (dice.nextInt(3) == 0) {
                    same("again(" + slot + ")", belt.again(slot), model.again(slot));
                }
            }
            default -> {
                int what = number(0, 14);
                same("count(" + what + ")", belt.count(what), model.count(what));
            }
        }
    }

    private void allZones() {
        int what = dice.nextInt(7);
        for (int z = 0; z < model.now.m + model.now.s; z++) {
            same("zone(" + z + ", " + what + ")", belt.zone(z, what), model.zone(z, what));
        }
    }

    private void judge() {
        int n = number(1, 4);
        long row = 0;
        for (int i = 0; i < n; i++) {
            row = row * 1000 + doing();
        }
        if (dice.nextInt(12) == 0) {
            row = dice.nextInt(3) == 0 ? -row : row * 10;
        }
        same("judge(" + n + ", " + row + ")", belt.judge(n, row), model.judge(n, row));
    }

    private int doing() {
        int z = dice.nextInt(10);
        int bit = dice.nextInt(2);
        switch (dice.nextInt(10)) {
            case 0, 1:
                return 100 + dice.nextInt(6);
            case 2:
                return 200 + dice.nextInt(2);
            case 3:
                return 300 + z;
            case 4:
                return 400;
            case 5:
                return 500 + 10 * z + dice.nextInt(3);
            case 6:
                return 600 + 10 * z + bit;
            case 7:
                return 700 + Math.min(99, model.count(9) + dice.nextInt(2));
            case 8:
                return 800 + 10 * z + bit;
            default:
                return dice.nextInt(1000);
        }
    }
}
