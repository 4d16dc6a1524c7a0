import java.math.BigInteger;
import java.util.ArrayDeque;
import java.util.ArrayList;
import java.util.List;
import java.util.regex.Pattern;

/**
 * The document once more, written as slowly and plainly as it reads and with nothing of the class
 * under test: RandomRunsTests holds the two against each other.
 */
final class PlainTallow {
    static final int UNKNOWN = -1, OUTSIDE = -2, STATE = -3, FULL = -4, NONE = -9;

    record Candle(int start, int inches, int price) { }
    record Guest(int gift, int wants, int from, int to) { }

    /** One state of the evening; acts copy it. */
    static final class World {
        int[] burnt = new int[4];
        int[] trimmed = new int[4];
        boolean[] lit = new boolean[4];
        boolean[] out = new boolean[4];
        int[] had = new int[4];
        int step;

        World copy() {
            World w = new World();
            w.burnt = burnt.clone();
            w.trimmed = trimmed.clone();
            w.lit = lit.clone();
            w.out = out.clone();
            w.had = had.clone();
            w.step = step;
            return w;
        }
    }

    String text = "";
    String evening = "";
    List<Candle> candles = new ArrayList<>();
    List<Guest> guests = new ArrayList<>();
    World world = new World();
    ArrayDeque<World> row = new ArrayDeque<>();
    World[] slots = new World[2];
    List<Integer> seen = new ArrayList<>();
    long seed;

    static final Pattern FORM = Pattern.compile("E[abcd-]{0,12}(C[0-9]{2}[1-6][1-9]|G[a-d][1-6][0-9][0-9])*", Pattern.DOTALL);

    static boolean isParty(String s) {
        if (!FORM.matcher(s).matches()) return false;
        int i = 1;
        while (i < s.length() && "abcd-".indexOf(s.charAt(i)) >= 0) i++;
        int moments = i - 1, c = 0, g = 0;
        for (; i < s.length(); i += 5) {
            if (s.charAt(i) == 'C') {
                c++;
                if (Integer.parseInt(s.substring(i + 1, i + 3)) + (s.charAt(i + 3) - '0') > moments) return false;
            } else {
                g++;
                if (s.charAt(i + 4) < s.charAt(i + 3)) return false;
            }
        }
        return c <= 4 && g <= 4;
    }

    static boolean canBecome(String s, int more) {
        if (isParty(s)) return true;
        if (more == 0) return false;
        for (char ch : new char[] {'E', 'a', '0', '1', '9'}) {
            if (canBecome(s + ch, more - 1)) return true;
        }
        return false;
    }

    int write(int letter) {
        if (letter < 0 || letter > 255) return OUTSIDE;
        if (text.length() == 64) return FULL;
        text += (char) letter;
        return text.length();
    }

    int wipe() {
        int n = text.length();
        text = "";
        return n;
    }

    int fault() {
        if (isParty(text)) return NONE;
        for (int i = 1; i <= text.length(); i++) {
            if (!canBecome(text.substring(0, i), 4)) return i - 1;
        }
        return text.length();
    }

    int party() {
        if (!isParty(text)) return STATE;
        int i = 1;
        while (i < text.length() && "abcd-".indexOf(text.charAt(i)) >= 0) i++;
        evening = text.substring(1, i);
        candles.clear();
        guests.clear();
        for (; i < text.length(); i += 5) {
            int x = text.charAt(i + 3) - '0', y = text.charAt(i + 4) - '0';
            if (text.charAt(i) == 'C') candles.add(new Candle(Integer.parseInt(text.substring(i + 1, i + 3)), x, y));
            else guests.add(new Guest(text.charAt(i + 1) - 'a', text.charAt(i + 2) - '0', x, y));
        }
        world = new World();
        row.clear();
        slots = new World[2];
        return 10 * candles.size() + guests.size();
    }

    int moment(int place) {
        if (place < 0 || place >= evening.length()) return NONE;
        return evening.charAt(place) == '-' ? 4 : evening.charAt(place) - 'a';
    }

    int left(World w, int c) { return candles.get(c).inches - w.burnt[c] - w.trimmed[c]; }
    int head(World w, int c) { return candles.get(c).start + w.burnt[c] + w.trimmed[c]; }
    boolean burns(World w, int c) { return w.lit[c] && !w.out[c] && left(w, c) > 0; }
    boolean content(World w, int g) { return w.had[g] >= guests.get(g).wants; }
    boolean noCandle(int c) { return c < 0 || c >= candles.size(); }
    boolean noGuest(int g) { return g < 0 || g >= guests.size(); }

    int candle(int c, int what) {
        if (noCandle(c)) return UNKNOWN;
        if (what == 0) return left(world, c) == 0 ? NONE : head(world, c);
        if (what == 1) return left(world, c);
        if (what == 2) return candles.get(c).price;
        if (what == 3) return !world.lit[c] ? 0 : burns(world, c) ? 1 : 2;
        return OUTSIDE;
    }

    int guest(int g, int what) {
        if (noGuest(g)) return UNKNOWN;
        Guest x = guests.get(g);
        int[] all = {x.gift, x.wants, x.from, x.to, world.had[g], content(world, g) ? 1 : 0};
        return what < 0 || what > 5 ? OUTSIDE : all[what];
    }

    void act() {
        row.addLast(world.copy());
        if (row.size() > 16) row.removeFirst();
    }

    int light(int c) {
        if (noCandle(c)) return UNKNOWN;
        if (world.lit[c]) return STATE;
        act();
        world.lit[c] = true;
        return Integer.bitCount(count(5));
    }

    int out(int c) {
        if (noCandle(c)) return UNKNOWN;
        if (!burns(world, c)) return STATE;
        act();
        world.out[c] = true;
        return left(world, c);
    }

    int trim(int c, int k) {
        if (noCandle(c)) return UNKNOWN;
        if (k < 1 || k > 5) return OUTSIDE;
        if (world.lit[c] || left(world, c) <= k) return STATE;
        act();
        world.trimmed[c] += k;
        return left(world, c);
    }

    int goBy(World w) {
        boolean[] given = new boolean[5];
        for (int c = 0; c < candles.size(); c++) {
            if (burns(w, c)) {
                given[moment(head(w, c))] = true;
                w.burnt[c]++;
            }
        }
        int bits = 0;
        for (int g = 0; g < guests.size(); g++) {
            Guest x = guests.get(g);
            if (given[x.gift] && w.step >= x.from && w.step <= x.to) {
                w.had[g]++;
                bits += 1 << g;
            }
        }
        w.step++;
        return bits;
    }

    int step() {
        if (world.step == 20) return STATE;
        act();
        return goBy(world);
    }

    int undo() {
        if (row.isEmpty()) return STATE;
        world = row.removeLast();
        return row.size();
    }

    /** The world at the end of a plan, burnt step by step. */
    World played(int[] figures) {
        World w = world.copy();
        for (int s = 1; w.step < 20; s++) {
            boolean more = false;
            for (int c = 0; c < candles.size(); c++) {
                if (figures[c] == s) w.lit[c] = true;
                more |= burns(w, c) || figures[c] > s;
            }
            if (!more) break;
            goBy(w);
        }
        return w;
    }

    List<int[]> allPlans() {
        List<int[]> all = new ArrayList<>();
        for (int n = 0; n < 2401; n++) {
            int[] f = {n / 343, n / 49 % 7, n / 7 % 7, n % 7};
            boolean can = true;
            for (int c = 0; c < 4; c++) {
                if (f[c] != 0 && (noCandle(c) || world.lit[c])) can = false;
            }
            if (can) all.add(f);
        }
        return all;
    }

    int planCost(int[] f) {
        int cost = 0;
        for (int c = 0; c < candles.size(); c++) {
            if (f[c] != 0) cost += left(world, c) * candles.get(c).price;
        }
        return cost;
    }

    /** The plan for the guests of a set (bits) alone, or null. */
    int[] thePlan(int set) {
        int[] best = null;
        for (int[] f : allPlans()) {
            World end = played(f);
            boolean does = true;
            for (int g = 0; g < guests.size(); g++) {
                if ((set >> g & 1) == 1 && !content(end, g)) does = false;
            }
            if (does && (best == null || planCost(f) < planCost(best))) best = f;
        }
        return best;
    }

    int everybody() { return (1 << guests.size()) - 1; }

    int plan() {
        int[] f = thePlan(everybody());
        return f == null ? NONE : planCost(f);
    }

    int planOf(int c) {
        if (noCandle(c)) return UNKNOWN;
        int[] f = thePlan(everybody());
        return f == null ? NONE : f[c];
    }

    int bars() {
        for (int g = 0; g < guests.size(); g++) {
            if (thePlan(1 << g) == null) return g;
        }
        return NONE;
    }

    int share(int guest, boolean upper) {
        if (noGuest(guest)) return UNKNOWN;
        if (thePlan(everybody()) == null) return STATE;
        int[] costs = new int[1 << guests.size()];
        for (int set = 0; set < costs.length; set++) costs[set] = planCost(thePlan(set));
        int[] sums = new int[2];
        orders(0, guest, costs, sums);
        return told(sums[0], sums[1], upper);
    }

    /** Every order of coming, one by one: what the guest adds, and how many orders there are. */
    void orders(int come, int guest, int[] costs, int[] sums) {
        if (come == everybody()) {
            sums[1]++;
            return;
        }
        for (int g = 0; g < guests.size(); g++) {
            if ((come >> g & 1) == 1) continue;
            int ahead = sums[1];
            orders(come | 1 << g, guest, costs, sums);
            if (g == guest) sums[0] += (sums[1] - ahead) * (costs[come | 1 << g] - costs[come]);
        }
    }

    static int told(long above, long below, boolean upper) {
        long divisor = BigInteger.valueOf(above).gcd(BigInteger.valueOf(below)).longValue();
        return (int) ((upper ? above : below) / divisor);
    }

    int tableOf(int c, int o) {
        int sum = 0;
        for (int s = 0; s < 6; s++) {
            int a = c >= 0 && s < left(world, c) ? moment(head(world, c) + s) : 4;
            int b = o >= 0 && s < left(world, o) ? moment(head(world, o) + s) : 4;
            if (a != 4) sum++;
            if (b != 4 && b != a) sum++;
        }
        return sum;
    }

    int table(int c, int o) {
        if (noCandle(c) || noCandle(o)) return UNKNOWN;
        return c == o ? OUTSIDE : tableOf(c, o);
    }

    int pairs() {
        List<Integer> free = new ArrayList<>();
        for (int c = 0; c < candles.size(); c++) if (!world.lit[c]) free.add(c);
        return pairsOf(free);
    }

    int pairsOf(List<Integer> free) {
        if (free.isEmpty()) return 0;
        int best = 0;
        if (free.size() % 2 == 1) {
            for (Integer alone : free) {
                List<Integer> rest = new ArrayList<>(free);
                rest.remove(alone);
                best = Math.max(best, tableOf(alone, -1) + pairsOf(rest));
            }
            return best;
        }
        for (Integer other : free.subList(1, free.size())) {
            List<Integer> rest = new ArrayList<>(free.subList(1, free.size()));
            rest.remove(other);
            best = Math.max(best, tableOf(free.get(0), other) + pairsOf(rest));
        }
        return best;
    }

    static String figures(int n, int row) {
        String s = Integer.toString(row);
        while (s.length() < n) s = "0" + s;
        return s;
    }

    int judge(int n, int row) {
        if (n < 1 || n > 8 || row < 0 || figures(n, row).length() > n) return OUTSIDE;
        World w = world.copy();
        String s = figures(n, row);
        for (int i = 0; i < n; i++) {
            int f = s.charAt(i) - '0';
            if (f == 4) {
                if (w.step == 20 || goBy(w) == 0) return i;
            } else {
                if (f > 4 || noCandle(f) || w.lit[f]) return i;
                w.lit[f] = true;
            }
        }
        return NONE;
    }

    int stub(int k, int row, boolean ofCandles) {
        if (k < 1 || k > 3 || row < 0) return OUTSIDE;
        String s = figures(k, row);
        if (s.length() > k || !s.matches("[0-4]*")) return OUTSIDE;
        String end = s.replace('0', '-').replace('1', 'a').replace('2', 'b').replace('3', 'c').replace('4', 'd');
        int bits = 0, places = 0;
        for (int c = 0; c < candles.size(); c++) {
            Candle x = candles.get(c);
            if (evening.substring(x.start, x.start + x.inches).endsWith(end)) bits += 1 << c;
        }
        for (int p = 0; p < evening.length(); p++) {
            if (evening.startsWith(end, p)) places++;
        }
        return ofCandles ? bits : places;
    }

    int see(int m) {
        if (m < 0 || m > 4) return OUTSIDE;
        if (seen.size() == 6) return FULL;
        seen.add(m);
        return seen.size();
    }

    int unsee() {
        int n = seen.size();
        seen.clear();
        return n;
    }

    List<Integer> origins(int l) {
        List<Integer> all = new ArrayList<>();
        for (int p = 0; p + l <= evening.length(); p++) {
            boolean so = seen.size() <= l;
            for (int i = 0; so && i < seen.size(); i++) so = moment(p + i) == seen.get(i);
            if (so) all.add(p);
        }
        return all;
    }

    int from(int l) {
        if (l < 1 || l > 6) return OUTSIDE;
        int bits = 0;
        for (int p : origins(l)) bits += 1 << p;
        return bits;
    }

    int next(int l, int m, boolean upper) {
        if (l < 1 || l > 6 || m < 0 || m > 4) return OUTSIDE;
        List<Integer> all = origins(l);
        if (all.isEmpty() || seen.size() == l) return STATE;
        int so = 0;
        for (int p : all) if (moment(p + seen.size()) == m) so++;
        return told(so, all.size(), upper);
    }

    int cut(int n, int k, int orders) {
        if (n < 1 || n > 30 || k < 1 || k > 6 || !Integer.toString(orders).matches("[1-9]{" + k + "}")) return OUTSIDE;
        int[] o = new int[k];
        for (int i = 0; i < k; i++) {
            o[i] = Integer.toString(orders).charAt(i) - '0';
            if (o[i] > n) return NONE;
        }
        return fewest(o, 0, new int[k], n);
    }

    /** Each order goes onto each long candle in turn. */
    int fewest(int[] orders, int i, int[] used, int n) {
        if (i == orders.length) {
            int c = 0;
            for (int u : used) if (u > 0) c++;
            return c;
        }
        int best = 99;
        for (int b = 0; b < used.length; b++) {
            if (used[b] + orders[i] <= n) {
                used[b] += orders[i];
                best = Math.min(best, fewest(orders, i + 1, used, n));
                used[b] -= orders[i];
            }
        }
        return best;
    }

    int draught(int c, int x, int gift, boolean upper) {
        if (noCandle(c)) return UNKNOWN;
        if (x < 0 || x > 10 || gift < 0 || gift > 3) return OUTSIDE;
        if (world.lit[c]) return STATE;
        // By where it goes out: ahead of inch i, or never.
        long above = 0, below = 1;
        int l = left(world, c);
        for (int i = 0; i < l; i++) below *= 10;
        for (int stop = 0; stop <= l; stop++) {
            long likely = stop < l ? x : 1;
            for (int i = 0; i < stop; i++) likely *= 10 - x;
            for (int i = stop + 1; i < l; i++) likely *= 10;
            int gifts = 0;
            for (int i = 0; i < stop; i++) if (moment(head(world, c) + i) == gift) gifts++;
            above += likely * gifts;
        }
        return told(above, below, upper);
    }

    long seed(long v) {
        long was = seed;
        seed = v;
        return was;
    }

    int night(int m) {
        if (m < 1 || m > 20) return OUTSIDE;
        World w = world.copy();
        for (int i = 0; i < m && w.step < 20; i++) {
            seed = seed * 6364136223846793005L + 1442695040888963407L;
            int c = Math.floorMod((int) (seed >> 33 & 0x7fffffffL), 4);
            if (!noCandle(c)) w.lit[c] = true;
            goBy(w);
        }
        int sum = 0;
        for (int h : w.had) sum += h;
        return sum;
    }

    int keep(int slot) {
        if (slot < 0 || slot > 1) return UNKNOWN;
        slots[slot] = world.copy();
        return world.step;
    }

    int again(int slot) {
        if (slot < 0 || slot > 1) return UNKNOWN;
        if (slots[slot] == null) return STATE;
        world = slots[slot].copy();
        row.clear();
        return world.step;
    }

    int count(int what) {
        int burning = 0, content = 0, cost = 0;
        for (int c = 0; c < candles.size(); c++) {
            if (burns(world, c)) burning += 1 << c;
            cost += world.burnt[c] * candles.get(c).price;
        }
        for (int g = 0; g < guests.size(); g++) if (content(world, g)) content += 1 << g;
        int[] all = {text.length(), evening.length(), candles.size(), guests.size(), world.step, burning, content, cost,
            row.size(), seen.size()};
        return what < 0 || what > 9 ? OUTSIDE : all[what];
    }
}
