import java.util.Random;

/** Thousands of runs of calls, each answer compared with PlainLand's. The seeds are fixed: it is the same each time. */
public final class RandomRunsTest {
    private static final int RUNS = 4000;
    private static final int CALLS = 512;
    private static final String[] NAMES = {"terms", "bank", "grower", "text", "law", "fault", "crop", "crops", "go",
        "right", "split", "give", "pledge", "pay", "redeem", "receipt", "owed", "growerOf", "money", "count", "sum",
        "gains", "beside", "light", "row", "tear", "write", "paste", "feed", "end"};
    private static final int[] WEIGHTS = {4, 6, 6, 12, 12, 6, 12, 6, 24, 14, 12, 10, 26, 14, 10, 30, 16, 24, 10, 20, 14,
        6, 8, 2, 6, 3, 12, 6, 3, 3};

    /* Kinds of runs, beside the common ones. */
    private static final int FIRST_TERMS = 0;
    private static final int MANY_YEARS = 1;
    private static final int FEW_YEARS = 2;
    private static final int MANY_PAPERS = 3;
    private static final int MANY_LOANS = 4;
    private static final int KINDS = 7;

    private final Random dice;
    private final int kind;
    private final int[] weights = WEIGHTS.clone();
    private final Check check;
    private final SurplusLand real = new SurplusLand();
    private final PlainLand plain = new PlainLand();
    private int calls = 0;

    private RandomRunsTest(long seed, Check check) {
        dice = new Random(seed);
        kind = dice.nextInt(KINDS);
        this.check = check;
        weighMore("go", kind == MANY_YEARS ? 5 : kind == MANY_LOANS ? 3 : 1);
        weighMore("pledge", kind == MANY_LOANS || kind == MANY_PAPERS ? 8 : 1);
    }

    public static void main(String[] args) {
        Check check = new Check();
        for (long seed = 0; seed < RUNS; seed++) {
            new RandomRunsTest(seed, check).run(seed);
        }
        check.finish();
    }

    private void run(long seed) {
        String at = "seed " + seed;
        begin(at);
        while (calls < CALLS - 20) {
            turn(at, NAMES[pick()]);
        }
    }

    private void weighMore(String name, int times) {
        for (int i = 0; i < NAMES.length; i++) {
            weights[i] *= NAMES[i].equals(name) ? times : 1;
        }
    }

    private int pick() {
        int all = 0;
        for (int w : weights) {
            all += w;
        }
        int n = dice.nextInt(all);
        int i = 0;
        while (n >= weights[i]) {
            n -= weights[i];
            i++;
        }
        return i;
    }

    private void same(String call, long got, long want) {
        calls++;
        check.due(call, got, want);
    }

    private int roll(int least, int most) {
        return least + dice.nextInt(most - least + 1);
    }

    /** Mostly a number that fits, now and then one at or beyond an edge. */
    private int near(int least, int most) {
        switch (dice.nextInt(24)) {
            case 0: return least - 1;
            case 1: return most + 1;
            case 2: return least;
            case 3: return most;
            case 4: return dice.nextInt(8) == 0 ? dice.nextInt() : roll(least, most);
            default: return roll(least, most);
        }
    }

    private void begin(String at) {
        if (kind != FIRST_TERMS) {
            newTerms(at);
        }
        int growers = dice.nextInt(4) == 0 ? 12 : roll(0, 5);
        for (int n = 0; n < growers; n++) {
            turn(at, "grower");
        }
        for (int n = 0; n < 3; n++) {
            turn(at, "text");
            turn(at, "law");
        }
        if (kind == MANY_PAPERS) {
            fillPapers(at);
        }
        for (int b = 0; b < 3 && kind == MANY_LOANS; b++) {
            int rate = near(60, 100);
            same(at + " bank", real.bank(b, 90, rate), plain.bank(b, 90, rate));
        }
    }

    /** Splits a great receipt until few numbers are left. */
    private void fillPapers(String at) {
        int free = roll(0, 8);
        same(at + " end", real.end(0), plain.end(0));
        Check.type(real, "keep 90");
        plain.tape = "keep 90";
        same(at + " law", real.law(0, 1), plain.law(0, 1));
        same(at + " crop", real.crop(0, 5000), plain.crop(0, 5000));
        go(at + " go");
        for (int n = plain.receipts.size(); n < 400 - plain.growers.size() - free && n > 0; n++) {
            int sacks = roll(1, 9);
            same(at + " split " + n, real.split(0, sacks), plain.split(0, sacks));
        }
    }

    private void newTerms(String at) {
        int[] t = {near(0, dice.nextInt(3) == 0 ? 10000000 : 20000), near(0, dice.nextBoolean() ? 1000000 : 200),
            near(0, 1000), near(0, dice.nextBoolean() ? 10000000 : 300), near(1, dice.nextBoolean() ? 200 : 10000),
            near(0, 100), near(0, 200)};
        same(at + " terms", real.terms(t[0], t[1], t[2], t[3], t[4], t[5], t[6]),
            plain.terms(t[0], t[1], t[2], t[3], t[4], t[5], t[6]));
    }

    private int someGrower() {
        return near(0, Math.max(0, plain.growers.size() - 1));
    }

    private int someReceipt() {
        int n = plain.receipts.size();
        for (int i = 0; i < 3; i++) {
            int r = near(0, Math.max(0, n - 1));
            if (r < 0 || r >= n || plain.receipts.get(r).sacks > 0) {
                return r;
            }
        }
        return near(0, n);
    }

    private int someSacks() {
        int[] most = {10, 1000, 30000, 500000};
        return near(0, most[dice.nextInt(4)]);
    }

    private void turn(String at, String name) {
        String call = at + " call " + calls + " " + name;
        switch (name) {
            case "terms": newTerms(at); break;
            case "bank": bank(call); break;
            case "grower": grower(call); break;
            case "text": text(call); break;
            case "law": law(call); break;
            case "fault": same(call, real.fault(), plain.fault()); break;
            case "crop": crop(call); break;
            case "crops": crops(call); break;
            case "go": go(call); break;
            case "right": right(call); break;
            case "split": case "give": case "pledge": case "pay": case "redeem": papers(call, name); break;
            case "receipt": case "owed": case "growerOf": case "money": case "count": case "sum": case "gains":
                answers(call, name);
                break;
            case "beside": beside(call); break;
            case "light": light(call); break;
            case "feed": case "end": tape(call, name); break;
            default: rows(call, name); break;
        }
    }

    private void bank(String call) {
        int b = near(0, 2);
        int p = near(0, 100);
        int r = near(0, 100);
        same(call, real.bank(b, p, r), plain.bank(b, p, r));
    }

    private void grower(String call) {
        int v = near(0, 7);
        int a = near(0, dice.nextBoolean() ? 1000 : 30);
        same(call, real.grower(v, a), plain.grower(v, a));
    }

    private void tape(String call, String name) {
        if (name.equals("end")) {
            int n = near(0, plain.tape.length());
            same(call, real.end(n), plain.end(n));
            return;
        }
        int v = dice.nextInt();
        same(call, real.feed(v, ~v, v * 31, 0x20202020, 0), plain.feed(v, ~v, v * 31, 0x20202020, 0));
    }

    private void text(String call) {
        same(call, real.end(0), plain.end(0));
        String text = new RandomText(dice).text();
        for (int i = 0; i < text.length(); i += 20) {
            int[] v = new int[5];
            for (int j = 0; j < 20; j++) {
                v[j / 4] = v[j / 4] << 8 | (i + j < text.length() ? text.charAt(i + j) : 0);
            }
            same(call, real.feed(v[0], v[1], v[2], v[3], v[4]), plain.feed(v[0], v[1], v[2], v[3], v[4]));
        }
        same(call, real.end(text.length()), plain.end(text.length()));
    }

    private void law(String call) {
        int from = dice.nextInt(6) == 0 ? near(0, 29) : plain.year;
        int to = dice.nextInt(3) == 0 ? near(0, 29) : 29;
        String said = call + "(" + from + ", " + to + ") '" + plain.tape + "'";
        same(said, real.law(from, to), plain.law(from, to));
        same(said + " fault", real.fault(), plain.fault());
    }

    private void crop(String call) {
        int g = someGrower();
        int s = someSacks();
        same(call, real.crop(g, s), plain.crop(g, s));
    }

    private void crops(String call) {
        int slot = near(0, 3);
        same(call, real.crops(slot), plain.crops(slot));
    }

    private void go(String call) {
        if (kind == FEW_YEARS && dice.nextInt(3) != 0) {
            return;
        }
        int yield = near(0, dice.nextBoolean() ? 100 : 5);
        same(call, real.go(yield), plain.go(yield));
        same(call + " price", real.count(3), plain.count(3));
        same(call + " store", real.count(4), plain.count(4));
        same(call + " free", real.count(5), plain.count(5));
        same(call + " unpaid", real.count(9), plain.count(9));
        same(call + " money", real.gains(0, 5000), plain.gains(0, 5000));
    }

    private void right(String call) {
        int g = someGrower();
        int y = near(0, Math.max(0, plain.year - 1));
        int s = someSacks();
        same(call, real.right(g, y, s), plain.right(g, y, s));
    }

    private void papers(String call, String name) {
        int r = someReceipt();
        long sacks = plain.receipt(r, 1);
        int n = near(1, (int) Math.max(1, sacks - 1));
        int years = near(1, dice.nextBoolean() ? 2 : 9);
        int b = near(0, 2);
        int g = someGrower();
        int rank = near(1, 2);
        switch (name) {
            case "split": same(call, real.split(r, n), plain.split(r, n)); break;
            case "give": same(call, real.give(r, g), plain.give(r, g)); break;
            case "pledge": same(call, real.pledge(r, b, years), plain.pledge(r, b, years)); break;
            case "pay": same(call, real.pay(r, rank), plain.pay(r, rank)); break;
            default: same(call, real.redeem(r), plain.redeem(r)); break;
        }
    }

    private void answers(String call, String name) {
        int r = near(0, Math.max(0, plain.receipts.size() - 1));
        int g = someGrower();
        int what = roll(-1, 11);
        int from = near(0, 1000);
        switch (name) {
            case "receipt": same(call, real.receipt(r, what), plain.receipt(r, what)); break;
            case "owed": same(call, real.owed(r, what % 4), plain.owed(r, what % 4)); break;
            case "growerOf": same(call + what, real.growerOf(g, what), plain.growerOf(g, what)); break;
            case "money": same(call, real.money(what + 4), plain.money(what + 4)); break;
            case "count": same(call + what, real.count(what), plain.count(what)); break;
            case "sum": same(call + what, real.sum(what), plain.sum(what)); break;
            default: same(call, real.gains(from, from + 300), plain.gains(from, from + 300)); break;
        }
    }

    private void beside(String call) {
        text(call);
        int what = near(0, 4);
        same(call + what + " '" + plain.tape + "'", real.beside(what), plain.beside(what));
        same(call + " tape", real.count(8), plain.count(8));
    }

    private void light(String call) {
        int all = near(1, 60);
        int n = near(0, Math.max(0, all));
        int k = near(0, Math.max(0, n));
        int what = near(0, 1);
        if (all > 1000000 || n > 1000000) {
            return;
        }
        same(call, real.light(all, n, k, what), plain.light(all, n, k, what));
    }

    private void rows(String call, String name) {
        int slot = near(0, 3);
        int to = near(0, 3);
        int n = near(0, dice.nextBoolean() ? 12 : 60);
        int i = near(0, 12);
        int k = near(0, 12);
        long v = dice.nextInt(3) == 0 ? dice.nextLong() : someSacks();
        switch (name) {
            case "row":
                int width = dice.nextBoolean() ? 2 : near(0, 3);
                same(call, real.row(slot, width, n), plain.row(slot, width, n));
                break;
            case "tear": same(call, real.tear(slot) ? 1 : 0, plain.tear(slot) ? 1 : 0); break;
            case "write": same(call, real.write(slot, i, v), plain.write(slot, i, v)); break;
            default: same(call, real.paste(slot, i, to, k, n / 4), plain.paste(slot, i, to, k, n / 4)); break;
        }
    }
}
