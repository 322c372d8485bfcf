import java.math.BigInteger;
import java.util.ArrayDeque;
import java.util.ArrayList;
import java.util.Deque;
import java.util.HashSet;
import java.util.List;
import java.util.Set;

/**
 * The document once more, in its plainest and slowest form and in another manner than ZoneBelt has:
 * RandomRunsTest holds the two against each other.
 */
final class Model {
    static final int UNKNOWN = -1, OUTSIDE = -2, STATE = -3, FULL = -4, NONE = -9;

    static final class Zone {
        int carton = 0, eye = 0, idle = 0, ticket = 0;
        boolean jammed = false, asleep = false;
        // of one step
        boolean saw, slept, wished, may, goes;

        Zone() {
        }

        Zone(Zone o) {
            carton = o.carton;
            eye = o.eye;
            idle = o.idle;
            ticket = o.ticket;
            jammed = o.jammed;
            asleep = o.asleep;
        }

        boolean sees() {
            return eye == 2 || eye == 0 && carton > 0;
        }
    }

    static final class Plant {
        int m = 2, s = 0, j = 1, train = 0, rest = 0, tickets = 0, fed = 0, clock = 0;
        boolean open = true;
        List<Zone> zones = new ArrayList<>();
        List<Integer> out = new ArrayList<>();

        Plant() {
            zones.add(new Zone());
            zones.add(new Zone());
        }

        Plant(Plant o) {
            m = o.m;
            s = o.s;
            j = o.j;
            train = o.train;
            rest = o.rest;
            tickets = o.tickets;
            fed = o.fed;
            clock = o.clock;
            open = o.open;
            for (Zone z : o.zones) {
                zones.add(new Zone(z));
            }
            out.addAll(o.out);
        }

        boolean has(int z) {
            return z >= 0 && z < m + s;
        }

        Zone behind(int z) {
            if (z < m) {
                return z == m - 1 ? null : zones.get(z + 1);
            }
            return z == m + s - 1 ? zones.get(j) : zones.get(z + 1);
        }

        List<Zone> feeding(int z) {
            List<Zone> those = new ArrayList<>();
            for (int i = 0; i < m + s; i++) {
                if (behind(i) == zones.get(z)) {
                    those.add(zones.get(i));
                }
            }
            return those;
        }

        /** LINE 0 from its last zone on, then LINE 1 likewise. */
        List<Integer> backwards() {
            List<Integer> order = new ArrayList<>();
            for (int z = m - 1; z >= 0; z--) {
                order.add(z);
            }
            for (int z = m + s - 1; z >= m; z--) {
                order.add(z);
            }
            return order;
        }

        void step() {
            for (Zone z : zones) {
                z.saw = z.sees();
                z.slept = z.asleep;
                z.may = false;
                z.goes = false;
            }
            for (Zone z : zones) {
                if (z.slept && z.saw) {
                    z.asleep = false;
                }
                z.wished = z.saw && !z.jammed && !z.slept;
            }
            for (Zone z : feeding(j)) {
                if (z.wished && z.ticket == 0) {
                    z.ticket = ++tickets;
                }
            }
            // settled by asking again and again till nothing more is found
            Zone last = zones.get(m - 1);
            last.goes = last.wished && open;
            for (int round = 0; round < 13; round++) {
                for (int i = 0; i < m + s; i++) {
                    Zone z = zones.get(i);
                    Zone b = behind(i);
                    if (b != null && z.wished) {
                        if (b.slept) {
                            b.asleep = false;
                        } else if (!b.saw || train == 1 && b.goes) {
                            z.may = true;
                        }
                    }
                }
                for (int i = 0; i < m + s; i++) {
                    Zone z = zones.get(i);
                    if (z.may) {
                        z.goes = true;
                        if (behind(i) == zones.get(j)) {
                            for (Zone other : feeding(j)) {
                                if (other.may && other.ticket < z.ticket) {
                                    z.goes = false;
                                }
                            }
                        }
                    }
                }
            }
            for (int i : backwards()) {
                Zone z = zones.get(i);
                if (z.goes && z.carton > 0) {
                    Zone b = behind(i);
                    if (b == null) {
                        out.add(z.carton);
                        z.carton = 0;
                    } else if (b.carton == 0) {
                        b.carton = z.carton;
                        z.carton = 0;
                    } else {
                        z.jammed = true;
                    }
                }
                if (z.goes) {
                    z.ticket = 0;
                }
            }
            for (int i = 0; i < m + s; i++) {
                Zone z = zones.get(i);
                boolean any = z.sees();
                for (Zone f : feeding(i)) {
                    any |= f.sees();
                }
                if (any) {
                    z.idle = 0;
                } else {
                    z.idle++;
                    if (rest > 0 && z.idle >= rest) {
                        z.asleep = true;
                    }
                }
            }
            clock++;
        }

        void steps(int n) {
            for (int i = 0; i < n; i++) {
                step();
            }
        }

        int fact(int zone, int what) {
            Zone z = zones.get(zone);
            int[] facts = {z.carton > 0 ? z.carton : NONE, z.eye, z.sees() ? 1 : 0, z.jammed ? 1 : 0,
                z.asleep ? 1 : 0, z.idle, z.ticket};
            return facts[what];
        }

        boolean empty() {
            for (Zone z : zones) {
                if (z.carton > 0) {
                    return false;
                }
            }
            return true;
        }

        int feed(int line) {
            if (line != 0 && (line != 1 || s == 0)) {
                return UNKNOWN;
            }
            Zone entry = zones.get(line == 0 ? 0 : m);
            if (entry.carton > 0) {
                return STATE;
            }
            if (fed >= 99) {
                return FULL;
            }
            entry.carton = ++fed;
            return fed;
        }

        int lift(int z) {
            if (!has(z)) {
                return UNKNOWN;
            }
            Zone zone = zones.get(z);
            if (zone.carton == 0) {
                return STATE;
            }
            int was = zone.carton;
            zone.carton = 0;
            zone.jammed = false;
            return was;
        }
    }

    StringBuilder text = new StringBuilder();
    Plant now = new Plant();
    Deque<Plant> acts = new ArrayDeque<>();
    Plant[] slots = new Plant[2];
    List<int[]> seen = new ArrayList<>();
    long seed = 0;

    private void act(Plant before) {
        acts.addLast(before);
        if (acts.size() > 14) {
            acts.removeFirst();
        }
    }

    int write(int letter) {
        if (letter < 0 || letter > 255) {
            return OUTSIDE;
        }
        if (text.length() == 40) {
            return FULL;
        }
        text.append((char) letter);
        return text.length();
    }

    int wipe() {
        int was = text.length();
        text = new StringBuilder();
        return was;
    }

    static boolean isBelt(String t) {
        if (!t.matches("Z[2-8][0-4][1-7][01][0-9](c[01][0-9])*")) {
            return false;
        }
        int m = t.charAt(1) - '0', s = t.charAt(2) - '0', j = t.charAt(3) - '0';
        if (j >= m) {
            return false;
        }
        boolean[] taken = new boolean[20];
        for (int i = 6; i < t.length(); i += 3) {
            int z = Integer.parseInt(t.substring(i + 1, i + 3));
            if (z >= m + s || taken[z]) {
                return false;
            }
            taken[z] = true;
        }
        return true;
    }

    private static final Set<String> BEGINNINGS = beginnings();

    /** All that a text of less than six letters can be, for some text that begins so to be a belt. */
    private static Set<String> beginnings() {
        Set<String> all = new HashSet<>();
        for (int head = 100000; head < 200000; head++) {
            String h = "Z" + String.valueOf(head).substring(1);
            if (isBelt(h)) {
                for (int i = 0; i < 6; i++) {
                    all.add(h.substring(0, i));
                }
            }
        }
        return all;
    }

    /** Whether some text that begins so is a belt. */
    static boolean canBe(String t) {
        if (isBelt(t)) {
            return true;
        }
        if (t.length() < 6) {
            return BEGINNINGS.contains(t);
        }
        String begun = t.substring(t.length() - t.length() % 3);
        for (int z = 0; z < 100; z++) {
            String whole = "c" + (z / 10) + (z % 10);
            if (whole.startsWith(begun) && isBelt(t + whole.substring(begun.length()))) {
                return true;
            }
        }
        return false;
    }

    int fault() {
        for (int i = 0; i < text.length(); i++) {
            if (!canBe(text.substring(0, i + 1))) {
                return i;
            }
        }
        return isBelt(text.toString()) ? NONE : text.length();
    }

    int belt() {
        if (fault() != NONE) {
            return STATE;
        }
        Plant p = new Plant();
        p.m = text.charAt(1) - '0';
        p.s = text.charAt(2) - '0';
        p.j = text.charAt(3) - '0';
        p.train = text.charAt(4) - '0';
        p.rest = text.charAt(5) - '0';
        p.zones.clear();
        for (int i = 0; i < p.m + p.s; i++) {
            p.zones.add(new Zone());
        }
        for (int i = 6; i < text.length(); i += 3) {
            p.zones.get(Integer.parseInt(text.substring(i + 1, i + 3))).carton = ++p.fed;
        }
        now = p;
        acts.clear();
        slots = new Plant[2];
        return p.m + p.s;
    }

    int zone(int zone, int what) {
        if (!now.has(zone)) {
            return UNKNOWN;
        }
        return what < 0 || what > 6 ? OUTSIDE : now.fact(zone, what);
    }

    int feed(int line) {
        Plant before = new Plant(now);
        int answer = now.feed(line);
        if (answer > 0) {
            act(before);
        }
        return answer;
    }

    int lift(int zone) {
        Plant before = new Plant(now);
        int answer = now.lift(zone);
        if (answer > 0) {
            act(before);
        }
        return answer;
    }

    int turn() {
        act(new Plant(now));
        now.open = !now.open;
        return now.open ? 1 : 0;
    }

    int eye(int zone, int eye) {
        if (!now.has(zone)) {
            return UNKNOWN;
        }
        if (eye < 0 || eye > 2) {
            return OUTSIDE;
        }
        act(new Plant(now));
        int was = now.zones.get(zone).eye;
        now.zones.get(zone).eye = eye;
        return was;
    }

    int make(int what, int v) {
        if (what == 0 && v >= 0 && v <= 1) {
            act(new Plant(now));
            int was = now.train;
            now.train = v;
            return was;
        }
        if (what == 1 && v >= 0 && v <= 9) {
            act(new Plant(now));
            int was = now.rest;
            now.rest = v;
            return was;
        }
        return OUTSIDE;
    }

    int clear(int zone) {
        if (!now.has(zone)) {
            return UNKNOWN;
        }
        if (!now.zones.get(zone).jammed) {
            return STATE;
        }
        act(new Plant(now));
        now.zones.get(zone).jammed = false;
        return Integer.bitCount(count(11));
    }

    int step(int n) {
        if (n < 1 || n > 99) {
            return OUTSIDE;
        }
        act(new Plant(now));
        int before = now.out.size();
        now.steps(n);
        return now.out.size() - before;
    }

    int undo() {
        if (acts.isEmpty()) {
            return STATE;
        }
        now = acts.removeLast();
        return acts.size();
    }

    int ahead(int n, int zone, int what) {
        if (!now.has(zone)) {
            return UNKNOWN;
        }
        if (n < 0 || n > 99 || what < 0 || what > 6) {
            return OUTSIDE;
        }
        Plant p = new Plant(now);
        p.steps(n);
        return p.fact(zone, what);
    }

    static int emptyOf(Plant from) {
        for (int n = 0; n <= 60; n++) {
            Plant p = new Plant(from);
            p.steps(n);
            if (p.empty()) {
                return n;
            }
        }
        return NONE;
    }

    List<Integer> rowOf() {
        Plant p = new Plant(now);
        p.steps(60);
        return p.out.subList(now.out.size(), p.out.size());
    }

    int ask(int what) {
        if (what == 0) {
            return emptyOf(now);
        }
        if (what == 1) {
            int best = 0, least = 1000;
            for (int r = 0; r <= 9; r++) {
                Plant p = new Plant(now);
                p.rest = r;
                int e = emptyOf(p);
                if (e == NONE) {
                    e = 999;
                }
                if (e < least) {
                    least = e;
                    best = r;
                }
            }
            return best;
        }
        return what == 2 ? rowOf().size() : OUTSIDE;
    }

    int row(int place) {
        List<Integer> row = rowOf();
        return place < 0 || place >= row.size() ? NONE : row.get(place);
    }

    int judge(int n, long row) {
        if (n < 1 || n > 4 || row < 0 || String.valueOf(row).length() > 3 * n) {
            return OUTSIDE;
        }
        String figures = String.format("%0" + 3 * n + "d", row);
        Plant p = new Plant(now);
        for (int i = 0; i < n; i++) {
            if (!can(p, figures.substring(3 * i, 3 * i + 3))) {
                return i;
            }
        }
        return NONE;
    }

    private static boolean can(Plant p, String t) {
        int a = t.charAt(1) - '0', b = t.charAt(2) - '0', ab = 10 * a + b;
        switch (t.charAt(0)) {
            case '1':
                p.steps(ab);
                return ab >= 1;
            case '2':
                return a == 0 && p.feed(b) > 0;
            case '3':
                return a == 0 && p.lift(b) > 0;
            case '4':
                p.open = !p.open;
                return ab == 0;
            case '5':
                if (!p.has(a) || b > 2) {
                    return false;
                }
                p.zones.get(a).eye = b;
                return true;
            case '6':
                return p.has(a) && (b == 1 && p.zones.get(a).carton > 0 || b == 0 && p.zones.get(a).carton == 0);
            case '7':
                return p.out.size() == ab;
            case '8':
                return p.has(a) && (b == 1 && p.zones.get(a).jammed || b == 0 && !p.zones.get(a).jammed);
            default:
                return false;
        }
    }

    int see(int n, int v, int was) {
        if (n < 0 || n > 30 || v < 0 || v > 99 || was < 0 || was > 1) {
            return OUTSIDE;
        }
        if (seen.size() == 6) {
            return FULL;
        }
        seen.add(new int[] {n, v, was});
        return seen.size();
    }

    int unsee() {
        int were = seen.size();
        seen.clear();
        return were;
    }

    int which() {
        int bits = 0;
        for (int z = 0; z < now.zones.size(); z++) {
            if (now.zones.get(z).eye == 0) {
                boolean fits = true;
                for (int[] s : seen) {
                    Plant p = new Plant(now);
                    p.zones.get(z).eye = 1;
                    p.steps(s[0]);
                    fits &= (p.out.size() == s[1]) == (s[2] == 1);
                }
                if (fits) {
                    bits += 1 << z;
                }
            }
        }
        return bits;
    }

    private long gain, orders;

    private void permute(List<Integer> left, Plant mended, int zone) {
        if (left.isEmpty()) {
            orders++;
            return;
        }
        for (int i = 0; i < left.size(); i++) {
            List<Integer> rest = new ArrayList<>(left);
            int z = rest.remove(i);
            Plant next = new Plant(mended);
            next.zones.get(z).eye = 0;
            if (z == zone) {
                long all = 1;
                for (int k = 2; k <= rest.size(); k++) {
                    all *= k;
                }
                Plant without = new Plant(mended);
                Plant with = new Plant(next);
                without.steps(20);
                with.steps(20);
                gain += all * (with.out.size() - without.out.size());
                orders += all;
            } else {
                permute(rest, next, zone);
            }
        }
    }

    int share(int zone, boolean upper) {
        if (!now.has(zone)) {
            return UNKNOWN;
        }
        List<Integer> bad = new ArrayList<>();
        for (int z = 0; z < now.zones.size(); z++) {
            if (now.zones.get(z).eye != 0) {
                bad.add(z);
            }
        }
        if (!bad.contains(zone) || bad.size() > 6) {
            return STATE;
        }
        gain = 0;
        orders = 0;
        permute(bad, now, zone);
        return part(BigInteger.valueOf(gain), BigInteger.valueOf(orders), upper);
    }

    private static int part(BigInteger above, BigInteger below, boolean upper) {
        BigInteger common = above.gcd(below);
        return (upper ? above : below).divide(common).intValueExact();
    }

    int shut(int n, int x, boolean upper) {
        if (n < 1 || n > 8 || x < 0 || x > 10) {
            return OUTSIDE;
        }
        BigInteger sum = BigInteger.ZERO;
        for (int pattern = 0; pattern < 1 << n; pattern++) {
            Plant p = new Plant(now);
            BigInteger weight = BigInteger.ONE;
            for (int i = 0; i < n; i++) {
                p.open = (pattern >> i & 1) == 0;
                weight = weight.multiply(BigInteger.valueOf(p.open ? 10 - x : x));
                p.step();
            }
            if (p.empty()) {
                sum = sum.add(weight);
            }
        }
        return part(sum, BigInteger.TEN.pow(n), upper);
    }

    long seed(long v) {
        long was = seed;
        seed = v;
        return was;
    }

    int drawn(int m) {
        if (m < 1 || m > 40) {
            return OUTSIDE;
        }
        Plant p = new Plant(now);
        for (int i = 0; i < m; i++) {
            BigInteger x = BigInteger.valueOf(seed).multiply(new BigInteger("6364136223846793005"))
                .add(new BigInteger("1442695040888963407"));
            seed = x.longValue();
            int v = (int) (seed >>> 33);
            if (v % 3 < 2) {
                p.feed(v % 3);
            }
            p.step();
        }
        return p.out.size() - now.out.size();
    }

    int keep(int slot) {
        if (slot < 0 || slot > 1) {
            return UNKNOWN;
        }
        slots[slot] = new Plant(now);
        return now.clock;
    }

    int again(int slot) {
        if (slot < 0 || slot > 1) {
            return UNKNOWN;
        }
        if (slots[slot] == null) {
            return STATE;
        }
        now = new Plant(slots[slot]);
        acts.clear();
        return now.clock;
    }

    int count(int what) {
        int loaded = 0, jammed = 0, asleep = 0;
        for (int i = 0; i < now.zones.size(); i++) {
            Zone z = now.zones.get(i);
            loaded += z.carton > 0 ? 1 << i : 0;
            jammed += z.jammed ? 1 << i : 0;
            asleep += z.asleep ? 1 << i : 0;
        }
        int[] all = {text.length(), now.m, now.s, now.j, now.train, now.rest, now.open ? 1 : 0, now.clock, now.fed,
            now.out.size(), loaded, jammed, asleep, acts.size(), seen.size()};
        return what < 0 || what >= all.length ? OUTSIDE : all[what];
    }
}
