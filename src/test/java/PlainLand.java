import java.lang.reflect.Array;
import java.math.BigInteger;
import java.util.ArrayList;
import java.util.HashMap;
import java.util.List;
import java.util.Map;

/** The document told a second time, as plainly as can be, to compare SurplusLand with. */
final class PlainLand {
    static final class G {
        int village;
        int acres;
        long bearing;
        long[] young = new long[3];
        long free;
        long money;
        long rest;
        long kept;
        final Map<Integer, Long> told = new HashMap<>();
        final Map<Integer, Long> crop = new HashMap<>();
        final Map<Integer, Boolean> freed = new HashMap<>();
    }

    static final class L {
        int bank;
        long owed;
        int due;
    }

    static final class R {
        int holder;
        long sacks;
        int year;
        List<L> loans = new ArrayList<>();
    }

    static final class B {
        long part = 50;
        long rate = 10;
        long money;
    }

    long base = 1000;
    long slope = 100;
    long pull = 100;
    long quota = 100;
    long high = 120;
    long plant = 10;
    long damp = 0;
    long price = 100;
    int year = 0;
    long wanted = 0;
    int unpaid = 0;
    int fault = -1;
    String tape = "";
    final List<G> growers = new ArrayList<>();
    final List<R> receipts = new ArrayList<>();
    final B[] banks = {new B(), new B(), new B()};
    final long[] sums = new long[8];
    final Map<Integer, String> laws = new HashMap<>();
    final Map<Integer, Integer> yields = new HashMap<>();
    final Map<Integer, Long> parts = new HashMap<>();
    final Object[] slots = new Object[4];

    private static boolean in(long v, long least, long most) {
        return least <= v && v <= most;
    }

    int terms(int b, int s, int p, int q, int h, int pl, int d) {
        if (!in(b, 0, 10000000) || !in(s, 0, 1000000) || !in(p, 0, 1000) || !in(q, 0, 10000000)
                || !in(h, 1, 10000) || !in(pl, 0, 100) || !in(d, 0, 200)) {
            return -2;
        }
        base = b;
        slope = s;
        pull = p;
        quota = q;
        high = h;
        plant = pl;
        damp = d;
        return 0;
    }

    int bank(int bank, int part, int rate) {
        if (!in(bank, 0, 2) || !in(part, 0, 100) || !in(rate, 0, 100)) {
            return -2;
        }
        banks[bank].part = part;
        banks[bank].rate = rate;
        return 0;
    }

    int grower(int village, int acres) {
        if (!in(village, 0, 7) || !in(acres, 0, 1000)) {
            return -2;
        }
        if (growers.size() == 12) {
            return -3;
        }
        if (year > 0) {
            return -9;
        }
        G g = new G();
        g.village = village;
        g.acres = acres;
        g.bearing = acres;
        growers.add(g);
        return growers.size() - 1;
    }

    int feed(int a, int b, int c, int d, int e) {
        if (tape.length() > 280) {
            return -1;
        }
        for (int v : new int[] {a, b, c, d, e}) {
            tape += (char) (v >>> 24) + "" + (char) (v >>> 16 & 255) + (char) (v >>> 8 & 255) + (char) (v & 255);
        }
        return tape.length();
    }

    int end(int n) {
        if (!in(n, 0, tape.length())) {
            return -1;
        }
        tape = tape.substring(0, n);
        return n;
    }

    private static Map<String, Long> noFacts() {
        return Map.of("crop", 0L, "store", 0L, "old", 0L, "price", 0L, "want", 0L, "year", 0L);
    }

    /** Clauses of the tape, or -4; the tape is empty then. */
    private int readTape() {
        String text = tape;
        tape = "";
        try {
            fault = -1;
            return PlainText.hear(text, noFacts()).clauses;
        } catch (PlainText.Fault f) {
            fault = f.place;
            return -4;
        }
    }

    int law(int from, int to) {
        if (!in(from, 0, 29) || !in(to, 0, 29) || from > to || from < year) {
            return -2;
        }
        String text = tape;
        int n = readTape();
        for (int y = from; y <= to && n != -4; y++) {
            laws.put(y, text);
        }
        return n;
    }

    int fault() {
        return fault;
    }

    private boolean isGrower(int n) {
        return in(n, 0, growers.size() - 1);
    }

    int crop(int grower, int sacks) {
        if (!isGrower(grower) || !in(sacks, 0, 500000)) {
            return -2;
        }
        growers.get(grower).told.put(year, (long) sacks);
        return 0;
    }

    int crops(int slot) {
        if (!in(slot, 0, 3)) {
            return -2;
        }
        if (slots[slot] == null) {
            return -5;
        }
        if (Array.getLength(slots[slot]) < growers.size()) {
            return -6;
        }
        for (int n = 0; n < growers.size(); n++) {
            if (!in(Array.getLong(slots[slot], n), 0, 500000)) {
                return -4;
            }
        }
        for (int n = 0; n < growers.size(); n++) {
            growers.get(n).told.put(year, Array.getLong(slots[slot], n));
        }
        return growers.size();
    }

    int go(int yield) {
        if (!in(yield, 0, 100)) {
            return -2;
        }
        if (year == 30) {
            return -9;
        }
        if (400 - receipts.size() < growers.size()) {
            return -3;
        }
        try {
            pass(yield);
        } catch (PlainText.Fault f) {
            throw new IllegalStateException("a law with a fault");
        }
        return year;
    }

    private long store() {
        return receipts.stream().mapToLong(r -> r.sacks).sum();
    }

    private long free() {
        return growers.stream().mapToLong(g -> g.free).sum();
    }

    private void earn(int holder, long amount) {
        if (holder < 12) {
            growers.get(holder).money += amount;
        } else {
            banks[holder - 12].money += amount;
        }
    }

    private void pass(int yield) throws PlainText.Fault {
        yields.put(year, yield);
        wanted = Math.max(0, base - slope * price / 100);
        long storeThen = store();
        long crops = 0;
        for (G g : growers) {
            long c = g.told.containsKey(year) ? g.told.get(year) : g.bearing * yield;
            g.crop.put(year, c);
            g.free += c;
            crops += c;
        }
        sums[0] += crops;
        PlainText.Saying said = new PlainText.Saying();
        if (laws.containsKey(year)) {
            Map<String, Long> facts = new HashMap<>();
            facts.put("crop", crops);
            facts.put("store", storeThen);
            facts.put("old", receipts.stream().filter(r -> r.year <= year - 2).mapToLong(r -> r.sacks).sum());
            facts.put("price", price);
            facts.put("want", wanted);
            facts.put("year", (long) year);
            said = PlainText.hear(laws.get(year), facts);
        }
        long part = said.keep == null ? 0 : said.keep < 0 ? 0 : said.keep > 100 ? 100 : said.keep;
        long sold = said.sell == null ? 0 : said.sell < 0 ? 0 : said.sell > storeThen ? storeThen : said.sell;
        parts.put(year, part);
        List<R> before = List.copyOf(receipts);
        keep(said, part);
        sellStore(before, sold);
        if (!said.stills.isEmpty()) {
            long still = said.stills.stream().mapToLong(v -> v).min().getAsLong();
            for (R r : receipts) {
                if (year - r.year > still) {
                    earn(r.holder, r.sacks * (price / 4));
                    sums[5] += r.sacks;
                    r.sacks = 0;
                }
            }
        }
        long f = free();
        sellFree(f, Math.min(f, Math.max(0, wanted - sold)));
        for (R r : receipts) {
            long lost = r.sacks * damp / 1000;
            r.sacks -= lost;
            sums[6] += lost;
        }
        price = Math.max(1, Math.min(10000, price + (wanted - f - sold) * pull / 1000));
        vines();
        loans();
        year++;
    }

    private void keep(PlainText.Saying said, long part) {
        for (int n = 0; n < growers.size(); n++) {
            G g = growers.get(n);
            long c = g.crop.get(year);
            boolean freed = said.frees.contains((long) g.village) || said.leasts.stream().anyMatch(v -> c < v);
            g.freed.put(year, freed);
            g.kept = 0;
            if (!freed) {
                long due = part * c + g.rest;
                g.kept = Math.min(c, Math.max(0, due / 100));
                g.rest = due - 100 * g.kept;
            }
            if (g.kept > 0) {
                g.free -= g.kept;
                sums[1] += g.kept;
                R r = new R();
                r.holder = n;
                r.sacks = g.kept;
                r.year = year;
                receipts.add(r);
            }
        }
    }

    private void sellStore(List<R> before, long sold) {
        sums[3] += sold;
        for (long sack = 0; sack < sold;) {
            for (R r : before) {
                long n = Math.min(r.sacks, sold - sack);
                r.sacks -= n;
                sack += n;
                earn(r.holder, n * price);
            }
        }
    }

    private void sellFree(long f, long e) {
        sums[2] += e;
        long gone = 0;
        if (f > 0) {
            for (G g : growers) {
                long n = g.free * e / f;
                g.free -= n;
                g.money += n * price;
                gone += n;
            }
        }
        for (int n = 0; gone < e; n = (n + 1) % growers.size()) {
            G g = growers.get(n);
            if (g.free > 0) {
                g.free--;
                g.money += price;
                gone++;
            }
        }
        long room = quota;
        for (G g : growers) {
            long n = Math.min(room, g.free);
            room -= n;
            g.free -= n;
            g.money += n * (price / 4);
            sums[4] += n;
        }
    }

    private void vines() {
        for (G g : growers) {
            g.bearing += g.young[2];
            g.young = new long[] {0, g.young[0], g.young[1]};
            if (price >= high && g.money >= 0) {
                g.young[0] = g.bearing * plant / 100;
                while (g.bearing + g.young[0] + g.young[1] + g.young[2] > 5000) {
                    g.young[0]--;
                }
            }
        }
    }

    private void loans() {
        for (R r : List.copyOf(receipts)) {
            for (L l : List.copyOf(r.loans)) {
                if (l.due > year || !r.loans.contains(l)) {
                    continue;
                }
                if (money(r.holder) >= l.owed) {
                    payBack(r, l);
                    continue;
                }
                unpaid++;
                long n = 0;
                while (n < r.sacks && n * price < l.owed) {
                    n++;
                }
                if (n == r.sacks || receipts.size() == 400) {
                    r.holder = 12 + l.bank;
                    r.loans.clear();
                } else {
                    R part = new R();
                    part.holder = 12 + l.bank;
                    part.sacks = n;
                    part.year = r.year;
                    receipts.add(part);
                    r.sacks -= n;
                    r.loans.remove(l);
                }
            }
        }
    }

    private void payBack(R r, L l) {
        earn(r.holder, -l.owed);
        banks[l.bank].money += l.owed;
        r.loans.remove(l);
    }

    int right(int grower, int gone, int sacks) {
        if (!isGrower(grower) || !in(gone, 0, year - 1) || !in(sacks, 0, 500000)) {
            return -1000000;
        }
        G g = growers.get(grower);
        long more = g.freed.get(gone) ? 0 : parts.get(gone) * (sacks - g.crop.get(gone)) / 100;
        g.crop.put(gone, (long) sacks);
        g.rest += 100 * more;
        return (int) more;
    }

    private R paper(int n) {
        return in(n, 0, receipts.size() - 1) ? receipts.get(n) : null;
    }

    int split(int receipt, int n) {
        R r = paper(receipt);
        if (r == null || r.sacks == 0 || n < 1 || n >= r.sacks) {
            return -2;
        }
        if (receipts.size() == 400) {
            return -3;
        }
        if (!r.loans.isEmpty()) {
            return -7;
        }
        R part = new R();
        part.holder = r.holder;
        part.sacks = n;
        part.year = r.year;
        r.sacks -= n;
        receipts.add(part);
        return receipts.size() - 1;
    }

    int give(int receipt, int grower) {
        R r = paper(receipt);
        if (r == null || r.sacks == 0 || !isGrower(grower)) {
            return -2;
        }
        if (!r.loans.isEmpty()) {
            return -7;
        }
        r.holder = grower;
        return 0;
    }

    long pledge(int receipt, int bank, int years) {
        R r = paper(receipt);
        if (r == null || r.sacks == 0 || r.holder >= 12 || !in(bank, 0, 2) || !in(years, 1, 9)) {
            return -2;
        }
        if (r.loans.size() == 2 || r.loans.stream().anyMatch(l -> l.bank == bank)) {
            return -7;
        }
        long lent = r.sacks * price * banks[bank].part / 100;
        if (r.loans.size() == 1) {
            lent /= 2;
        }
        if (lent == 0) {
            return -8;
        }
        L l = new L();
        l.bank = bank;
        l.owed = lent * (100 + banks[bank].rate) / 100;
        l.due = year + years;
        r.loans.add(l);
        earn(r.holder, lent);
        banks[bank].money -= lent;
        return lent;
    }

    private L loan(int receipt, int rank) {
        R r = paper(receipt);
        return r != null && in(rank, 1, r.loans.size()) ? r.loans.get(rank - 1) : null;
    }

    long pay(int receipt, int rank) {
        L l = loan(receipt, rank);
        if (l == null) {
            return -2;
        }
        if (money(paper(receipt).holder) < l.owed) {
            return -7;
        }
        payBack(paper(receipt), l);
        return l.owed;
    }

    int redeem(int receipt) {
        R r = paper(receipt);
        if (r == null || r.sacks == 0 || r.holder >= 12) {
            return -2;
        }
        if (!r.loans.isEmpty()) {
            return -7;
        }
        if (year < r.year + 3) {
            return -9;
        }
        long n = r.sacks;
        r.sacks = 0;
        growers.get(r.holder).free += n;
        sums[7] += n;
        return (int) n;
    }

    int receipt(int receipt, int what) {
        R r = paper(receipt);
        if (r == null || !in(what, 0, 6)) {
            return -2;
        }
        L one = loan(receipt, 1);
        L two = loan(receipt, 2);
        return (int) new long[] {r.holder, r.sacks, r.year, one == null ? -1 : one.bank, two == null ? -1 : two.bank,
            one == null ? -1 : one.due, two == null ? -1 : two.due}[what];
    }

    long owed(int receipt, int rank) {
        L l = loan(receipt, rank);
        return l == null ? 0 : l.owed;
    }

    int growerOf(int grower, int what) {
        if (!isGrower(grower) || !in(what, 0, 8)) {
            return -1000000;
        }
        G g = growers.get(grower);
        return (int) new long[] {g.village, g.bearing, g.young[0], g.young[1], g.young[2], g.free, g.rest,
            year == 0 ? -1 : g.crop.get(year - 1), year == 0 ? -1 : g.kept}[what];
    }

    long money(int holder) {
        if (isGrower(holder)) {
            return growers.get(holder).money;
        }
        return in(holder, 12, 14) ? banks[holder - 12].money : 0;
    }

    int count(int what) {
        if (!in(what, 0, 10)) {
            return -1;
        }
        long rows = 0;
        for (Object s : slots) {
            rows += s == null ? 0 : 1;
        }
        return (int) new long[] {year, growers.size(), receipts.size(), price, store(), free(), wanted,
            year == 0 ? 0 : parts.get(year - 1), tape.length(), unpaid, rows}[what];
    }

    long sum(int what) {
        return in(what, 0, 7) ? sums[what] : 0;
    }

    long gains(int from, int to) {
        return growers.stream().filter(g -> in(g.bearing, from, to)).mapToLong(g -> g.money).sum();
    }

    long beside(int what) {
        if (!in(what, 0, 4)) {
            return -2;
        }
        String text = tape;
        if (readTape() == -4) {
            return -4;
        }
        PlainLand twin = new PlainLand();
        twin.terms((int) base, (int) slope, (int) pull, (int) quota, (int) high, (int) plant, (int) damp);
        for (G g : growers) {
            twin.grower(g.village, g.acres);
        }
        for (int y = 0; y < year; y++) {
            twin.laws.put(y, text);
            for (int n = 0; n < growers.size(); n++) {
                if (growers.get(n).told.containsKey(y)) {
                    twin.crop(n, growers.get(n).told.get(y).intValue());
                }
            }
            twin.go(yields.get(y));
        }
        return new long[] {twin.price, twin.store(), twin.growers.stream().mapToLong(g -> g.money).sum(),
            twin.growers.stream().mapToLong(g -> g.bearing).sum(), twin.free()}[what];
    }

    private static BigInteger choose(int n, int k) {
        BigInteger c = k < 0 || k > n ? BigInteger.ZERO : BigInteger.ONE;
        for (int i = 1; i <= k; i++) {
            c = c.multiply(BigInteger.valueOf(n - k + i)).divide(BigInteger.valueOf(i));
        }
        return c;
    }

    int light(int all, int n, int k, int what) {
        if (!in(all, 1, 60) || !in(n, 0, all) || !in(k, 0, n) || !in(what, 0, 1)) {
            return -2;
        }
        int answer = -1;
        for (int l = 0; l <= all; l++) {
            BigInteger ways = BigInteger.ZERO;
            for (int j = 0; j <= n; j++) {
                if (what == 0 ? j >= k : j <= k) {
                    ways = ways.add(choose(l, j).multiply(choose(all - l, n - j)));
                }
            }
            if (ways.multiply(BigInteger.valueOf(20)).compareTo(choose(all, n)) >= 0 && (what == 1 || answer < 0)) {
                answer = l;
            }
        }
        return answer;
    }

    int row(int slot, int width, int n) {
        if (!in(slot, 0, 3) || !in(width, 0, 3) || n > 60) {
            return -2;
        }
        if (n < 0) {
            return -3;
        }
        slots[slot] = Array.newInstance(new Class<?>[] {byte.class, short.class, int.class, long.class}[width], n);
        return 0;
    }

    boolean tear(int slot) {
        boolean had = in(slot, 0, 3) && slots[slot] != null;
        if (had) {
            slots[slot] = null;
        }
        return had;
    }

    int write(int slot, int i, long v) {
        if (!in(slot, 0, 3)) {
            return -2;
        }
        if (slots[slot] == null) {
            return -5;
        }
        if (!in(i, 0, Array.getLength(slots[slot]) - 1)) {
            return -6;
        }
        if (slots[slot] instanceof byte[] row) {
            row[i] = (byte) v;
        } else if (slots[slot] instanceof short[] row) {
            row[i] = (short) v;
        } else if (slots[slot] instanceof int[] row) {
            row[i] = (int) v;
        } else if (slots[slot] instanceof long[] row) {
            row[i] = v;
        }
        return 0;
    }

    int paste(int slot, int i, int to, int k, int n) {
        if (!in(slot, 0, 3) || !in(to, 0, 3)) {
            return -2;
        }
        if (slots[slot] == null || slots[to] == null) {
            return -5;
        }
        if (slots[slot].getClass() != slots[to].getClass()) {
            return -7;
        }
        try {
            System.arraycopy(slots[slot], i, slots[to], k, n);
            return 0;
        } catch (IndexOutOfBoundsException e) {
            return -6;
        }
    }
}
