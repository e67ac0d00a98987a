import java.util.Arrays;

/** A land of currants whose law locks up a part of each crop so that prices hold. */
public final class SurplusLand {
    public static final int NONE = -1;

    private static final int WRONG = -2;
    private static final int FULL = -3;
    private static final int FAULTY = -4;
    private static final int EMPTY = -5;
    private static final int BEYOND = -6;
    private static final int BOUND = -7;
    private static final int NO_LOAN = -8;
    private static final int WRONG_TIME = -9;
    private static final int UNKNOWN = -1000000;

    private static final int YEARS = 30;
    private static final int GROWERS = 12;
    private static final int BANKS = 3;
    private static final int VILLAGES = 8;
    private static final int RECEIPTS = 400;
    private static final int MOST_CROP = 500000;
    private static final int MOST_NEW_ACRES = 1000;
    private static final int MOST_ACRES = 5000;
    private static final int MOST_YIELD = 100;
    private static final int MOST_PRICE = 10000;
    private static final int FIRST_PRICE = 100;
    private static final int LONGEST_LOAN = 9;
    private static final int REDEEM_AGE = 3;
    private static final int SACKS_TRIED = 60;
    private static final int SETS_IN_DOUBT = 20;

    private static final int TAPE_ROOM = 300;
    private static final int FED = 20;
    private static final int CLAUSES = 12;
    private static final int DEEPEST = 8;
    private static final int MOST_NUMBER = 999999;

    /* Above the pending values of nine levels of brackets and of a condition around them. */
    private static final int STACK_ROOM = 32;

    private static final int SLOTS = 4;
    private static final int WIDTHS = 4;
    private static final int ROW_ROOM = 60;

    private static final int SUM_CROPS = 0;
    private static final int SUM_KEPT = 1;
    private static final int SUM_FREE_ABROAD = 2;
    private static final int SUM_STORE_ABROAD = 3;
    private static final int SUM_FREE_STILLED = 4;
    private static final int SUM_STORE_STILLED = 5;
    private static final int SUM_DAMP = 6;
    private static final int SUM_REDEEMED = 7;
    private static final int SUMS = 8;

    /* Kinds of tokens. In a law's code a number stands for itself, any other kind for its negative. */
    private static final int BAD = 1;
    private static final int TEXT_END = 2;
    private static final int NUMBER = 3;
    private static final int PLUS = 4;
    private static final int MINUS = 5;
    private static final int TIMES = 6;
    private static final int OVER = 7;
    private static final int OPEN = 8;
    private static final int CLOSE = 9;
    private static final int LESS = 10;
    private static final int MORE = 11;
    private static final int EQUAL = 12;
    private static final int SEMICOLON = 13;
    private static final int KEEP = 14;
    private static final int SELL = 15;
    private static final int FREE = 16;
    private static final int LEAST = 17;
    private static final int STILL = 18;
    private static final int IF = 19;
    private static final int AND = 20;
    private static final int FACT_CROP = 21;
    private static final int FACT_STORE = 22;
    private static final int FACT_OLD = 23;
    private static final int FACT_PRICE = 24;
    private static final int FACT_WANT = 25;
    private static final int FACT_YEAR = 26;
    private static final int FACTS = 6;

    private final Terms terms;
    private final Land land;
    private final Land other;
    private final Tape tape;
    private final Law draft;
    private final Law[] laws;
    private final Rows rows;
    private final long[] sets;

    public SurplusLand() {
        terms = new Terms();
        land = new Land(terms);
        other = new Land(terms);
        tape = new Tape();
        draft = new Law(CLAUSES, TAPE_ROOM);
        laws = new Law[YEARS];
        rows = new Rows();
        sets = countSets();
    }

    public int terms(int base, int slope, int pull, int quota, int high, int plant, int damp) {
        boolean market = isWithin(base, 0, 10000000) && isWithin(slope, 0, 1000000) && isWithin(pull, 0, 1000);
        boolean fruit = isWithin(quota, 0, 10000000) && isWithin(high, 1, MOST_PRICE)
                && isWithin(plant, 0, 100) && isWithin(damp, 0, 200);
        if (!market || !fruit) {
            return WRONG;
        }
        terms.base = base;
        terms.slope = slope;
        terms.pull = pull;
        terms.quota = quota;
        terms.high = high;
        terms.plant = plant;
        terms.damp = damp;
        return 0;
    }

    public int bank(int bank, int part, int rate) {
        if (!isWithin(bank, 0, BANKS - 1) || !isWithin(part, 0, 100) || !isWithin(rate, 0, 100)) {
            return WRONG;
        }
        land.banks[bank].part = part;
        land.banks[bank].rate = rate;
        return 0;
    }

    public int grower(int village, int acres) {
        if (!isWithin(village, 0, VILLAGES - 1) || !isWithin(acres, 0, MOST_NEW_ACRES)) {
            return WRONG;
        }
        if (land.settled >= GROWERS) {
            return FULL;
        }
        if (land.year > 0) {
            return WRONG_TIME;
        }
        return land.settle(village, acres);
    }

    public int feed(int a, int b, int c, int d, int e) {
        if (tape.length + FED > TAPE_ROOM) {
            return NONE;
        }
        tape.append(a);
        tape.append(b);
        tape.append(c);
        tape.append(d);
        tape.append(e);
        return tape.length;
    }

    public int end(int n) {
        if (!isWithin(n, 0, tape.length)) {
            return NONE;
        }
        tape.length = n;
        return n;
    }

    public int law(int from, int to) {
        if (from < land.year || to < from || to >= YEARS) {
            return WRONG;
        }
        if (!tape.readLaw(draft)) {
            return FAULTY;
        }
        Law kept = draft.copy();
        for (int y = Math.max(from, 0); y <= to && y < laws.length; y++) {
            laws[y] = kept;
        }
        return kept.clauses;
    }

    public int fault() {
        return tape.fault;
    }

    public int crop(int grower, int sacks) {
        if (!land.hasGrower(grower) || !isWithin(sacks, 0, MOST_CROP)) {
            return WRONG;
        }
        land.tellCrop(grower, sacks);
        return 0;
    }

    public int crops(int slot) {
        if (!isWithin(slot, 0, SLOTS - 1)) {
            return WRONG;
        }
        if (!rows.hasRow(slot)) {
            return EMPTY;
        }
        if (rows.lengths[slot] < land.settled) {
            return BEYOND;
        }
        for (int g = 0; g < land.settled; g++) {
            long sacks = rows.numberAt(slot, g);
            if (sacks < 0 || sacks > MOST_CROP) {
                return FAULTY;
            }
        }
        for (int g = 0; g < land.settled; g++) {
            land.tellCrop(g, (int) rows.numberAt(slot, g));
        }
        return land.settled;
    }

    public int go(int yield) {
        if (!isWithin(yield, 0, MOST_YIELD)) {
            return WRONG;
        }
        if (!isWithin(land.year, 0, YEARS - 1)) {
            return WRONG_TIME;
        }
        if (RECEIPTS - land.store.count < land.settled) {
            return FULL;
        }
        land.passYear(yield, laws[land.year]);
        return land.year;
    }

    public int right(int grower, int year, int sacks) {
        if (!land.hasGrower(grower) || !isWithin(year, 0, land.year - 1) || !isWithin(sacks, 0, MOST_CROP)) {
            return UNKNOWN;
        }
        return land.putRight(grower, year, sacks);
    }

    public int split(int receipt, int n) {
        Receipt paper = land.store.find(receipt);
        if (paper == null || n < 1 || n >= paper.sacks) {
            return WRONG;
        }
        if (land.store.isFull()) {
            return FULL;
        }
        if (paper.isPledged()) {
            return BOUND;
        }
        paper.sacks -= n;
        return land.store.issue(paper.holder, n, paper.year);
    }

    public int give(int receipt, int grower) {
        Receipt paper = land.store.find(receipt);
        if (paper == null || paper.sacks == 0 || !land.hasGrower(grower)) {
            return WRONG;
        }
        if (paper.isPledged()) {
            return BOUND;
        }
        paper.holder = grower;
        return 0;
    }

    public long pledge(int receipt, int bank, int years) {
        Receipt paper = land.store.find(receipt);
        boolean lendable = paper != null && paper.sacks > 0 && paper.holder < GROWERS;
        if (!lendable || !isWithin(bank, 0, BANKS - 1) || !isWithin(years, 1, LONGEST_LOAN)) {
            return WRONG;
        }
        if (paper.second != null || (paper.first != null && paper.first.bank == bank)) {
            return BOUND;
        }
        long lent = land.offer(paper, bank);
        if (lent <= 0) {
            return NO_LOAN;
        }
        land.lend(paper, bank, lent, land.year + years);
        return lent;
    }

    public long pay(int receipt, int rank) {
        Receipt paper = land.store.find(receipt);
        Loan loan = paper == null ? null : paper.loanOf(rank);
        if (loan == null) {
            return WRONG;
        }
        if (land.moneyOf(paper.holder) < loan.owed) {
            return BOUND;
        }
        land.payBack(paper, loan);
        return loan.owed;
    }

    public int redeem(int receipt) {
        Receipt paper = land.store.find(receipt);
        if (paper == null || paper.sacks == 0 || !land.hasGrower(paper.holder)) {
            return WRONG;
        }
        if (paper.isPledged()) {
            return BOUND;
        }
        if (land.year - paper.year < REDEEM_AGE) {
            return WRONG_TIME;
        }
        int sacks = paper.sacks;
        paper.sacks = 0;
        land.growers[paper.holder].free += sacks;
        land.sums[SUM_REDEEMED] += sacks;
        return sacks;
    }

    public int receipt(int receipt, int what) {
        Receipt paper = land.store.find(receipt);
        if (paper == null) {
            return WRONG;
        }
        switch (what) {
            case 0: return paper.holder;
            case 1: return paper.sacks;
            case 2: return paper.year;
            case 3: return paper.first == null ? NONE : paper.first.bank;
            case 4: return paper.second == null ? NONE : paper.second.bank;
            case 5: return paper.first == null ? NONE : paper.first.due;
            case 6: return paper.second == null ? NONE : paper.second.due;
            default: return WRONG;
        }
    }

    public long owed(int receipt, int rank) {
        Receipt paper = land.store.find(receipt);
        Loan loan = paper == null ? null : paper.loanOf(rank);
        return loan == null ? 0 : loan.owed;
    }

    public int growerOf(int grower, int what) {
        if (!land.hasGrower(grower)) {
            return UNKNOWN;
        }
        Grower g = land.growers[grower];
        boolean none = land.year < 1;
        switch (what) {
            case 0: return g.village;
            case 1: return g.bearing;
            case 2: return g.young0;
            case 3: return g.young1;
            case 4: return g.young2;
            case 5: return g.free;
            case 6: return (int) g.rest;
            case 7: return none ? NONE : g.cropOf(land.year - 1);
            case 8: return none ? NONE : g.kept;
            default: return UNKNOWN;
        }
    }

    public long money(int holder) {
        return land.moneyOf(holder);
    }

    public int count(int what) {
        switch (what) {
            case 0: return land.year;
            case 1: return land.settled;
            case 2: return land.store.count;
            case 3: return land.price;
            case 4: return (int) land.store.sacksInAll();
            case 5: return (int) land.freeInAll();
            case 6: return land.wanted;
            case 7: return land.part;
            case 8: return tape.length;
            case 9: return land.unpaid;
            case 10: return rows.filledSlots();
            default: return NONE;
        }
    }

    public long sum(int what) {
        return isWithin(what, 0, SUMS - 1) ? land.sums[what] : 0;
    }

    public long gains(int from, int to) {
        long all = 0;
        for (int n = 0; n < land.settled; n++) {
            Grower g = land.growers[n];
            if (isWithin(g.bearing, from, to)) {
                all += g.money;
            }
        }
        return all;
    }

    public long beside(int what) {
        if (!isWithin(what, 0, 4)) {
            return WRONG;
        }
        if (!tape.readLaw(draft)) {
            return FAULTY;
        }
        other.liveAgain(land, draft);
        switch (what) {
            case 0: return other.price;
            case 1: return other.store.sacksInAll();
            case 2: return other.moneyInAll();
            case 3: return other.bearingInAll();
            default: return other.freeInAll();
        }
    }

    public int light(int all, int n, int k, int what) {
        boolean drawn = isWithin(all, 1, SACKS_TRIED) && isWithin(n, 0, all) && isWithin(k, 0, n);
        if (!drawn || !isWithin(what, 0, 1)) {
            return WRONG;
        }
        for (int step = 0; step < all; step++) {
            boolean least = what == 0;
            int lightOnes = least ? step : all - step;
            long alike = least ? waysToDraw(all, lightOnes, n, k, n) : waysToDraw(all, lightOnes, n, 0, k);
            if (alike * SETS_IN_DOUBT >= setsOf(all, n)) {
                return lightOnes;
            }
        }
        return what == 0 ? all : 0;
    }

    public int row(int slot, int width, int n) {
        if (!isWithin(slot, 0, SLOTS - 1) || !isWithin(width, 0, WIDTHS - 1) || n > ROW_ROOM) {
            return WRONG;
        }
        if (n < 0) {
            return FULL;
        }
        rows.lay(slot, width, n);
        return 0;
    }

    public boolean tear(int slot) {
        if (!rows.hasRow(slot)) {
            return false;
        }
        rows.lengths[slot] = NONE;
        return true;
    }

    public int write(int slot, int i, long v) {
        if (!isWithin(slot, 0, SLOTS - 1)) {
            return WRONG;
        }
        if (!rows.hasRow(slot)) {
            return EMPTY;
        }
        if (!isWithin(i, 0, rows.lengths[slot] - 1)) {
            return BEYOND;
        }
        rows.set(slot, i, v);
        return 0;
    }

    public int paste(int slot, int i, int to, int k, int n) {
        if (!isWithin(slot, 0, SLOTS - 1) || !isWithin(to, 0, SLOTS - 1)) {
            return WRONG;
        }
        if (!rows.hasRow(slot) || !rows.hasRow(to)) {
            return EMPTY;
        }
        if (rows.widths[slot] != rows.widths[to]) {
            return BOUND;
        }
        if (!rows.holds(slot, i, n) || !rows.holds(to, k, n)) {
            return BEYOND;
        }
        rows.carry(slot, i, to, k, n);
        return 0;
    }

    private static boolean isWithin(int v, int least, int most) {
        return v >= least && v <= most;
    }

    private static long cutTo(long v, long least, long most) {
        return Math.max(least, Math.min(most, v));
    }

    /* Pascal's triangle, row by row: made once, since light() asks for it over and over. */
    private static long[] countSets() {
        long[] triangle = new long[(SACKS_TRIED + 1) * (SACKS_TRIED + 2) / 2];
        int at = 0;
        for (int n = 0; n <= SACKS_TRIED; n++) {
            for (int k = 0; k <= n; k++) {
                triangle[at] = k == 0 || k == n ? 1 : triangle[at - n - 1] + triangle[at - n];
                at++;
            }
        }
        return triangle;
    }

    private long setsOf(int n, int k) {
        if (!isWithin(n, 0, SACKS_TRIED) || !isWithin(k, 0, n)) {
            return 0;
        }
        return sets[n * (n + 1) / 2 + k];
    }

    private long waysToDraw(int all, int lightOnes, int n, int from, int to) {
        long ways = 0;
        for (int k = from; k <= to; k++) {
            ways += setsOf(lightOnes, k) * setsOf(all - lightOnes, n - k);
        }
        return ways;
    }

    private static final class Terms {
        int base = 1000;
        int slope = 100;
        int pull = 100;
        int quota = 100;
        int high = 120;
        int plant = 10;
        int damp = 0;

        int wantedAt(int price) {
            long less = (long) slope * price / 100;
            return (int) Math.max(0, base - less);
        }
    }

    private static final class Grower {
        final int[] told = new int[YEARS];
        final int[] crops = new int[YEARS];
        final boolean[] freed = new boolean[YEARS];
        int village;
        int acres;
        int bearing;
        int young0;
        int young1;
        int young2;
        int free;
        int kept;
        long money;
        long rest;

        void arrive(int itsVillage, int itsAcres) {
            village = itsVillage;
            acres = itsAcres;
            bearing = itsAcres;
            young0 = 0;
            young1 = 0;
            young2 = 0;
            free = 0;
            kept = 0;
            money = 0;
            rest = 0;
            Arrays.fill(told, NONE);
        }

        int cropOf(int year) {
            return isWithin(year, 0, YEARS - 1) ? crops[year] : NONE;
        }

        void sell(int sacks, int price) {
            free -= sacks;
            money += (long) sacks * price;
        }

        void growOlder() {
            bearing += young2;
            young2 = young1;
            young1 = young0;
            young0 = 0;
        }

        void plant(int part) {
            int room = MOST_ACRES - bearing - young1 - young2;
            young0 = Math.max(0, Math.min(room, bearing * part / 100));
        }
    }

    private static final class Bank {
        int part = 50;
        int rate = 10;
        long money;
    }

    private static final class Loan {
        final int bank;
        final int due;
        final long owed;

        Loan(int itsBank, int itsDue, long itsOwed) {
            bank = itsBank;
            due = itsDue;
            owed = itsOwed;
        }
    }

    private static final class Receipt {
        int holder;
        int sacks;
        int year;
        Loan first;
        Loan second;

        boolean isPledged() {
            return first != null;
        }

        Loan loanOf(int rank) {
            if (rank == 1) {
                return first;
            }
            return rank == 2 ? second : null;
        }

        boolean bears(Loan loan) {
            return loan != null && (first == loan || second == loan);
        }

        void bear(Loan loan) {
            if (first == null) {
                first = loan;
            } else {
                second = loan;
            }
        }

        void drop(Loan loan) {
            if (first == loan) {
                first = second;
                second = null;
            } else if (second == loan) {
                second = null;
            }
        }
    }

    private static final class Store {
        final Receipt[] papers = new Receipt[RECEIPTS];
        int count;

        Receipt find(int number) {
            return isWithin(number, 0, count - 1) ? papers[number] : null;
        }

        boolean isFull() {
            return count >= RECEIPTS;
        }

        /* A paper of an earlier telling of the land BESIDE is used again. */
        int issue(int holder, int sacks, int year) {
            if (isFull()) {
                return NONE;
            }
            if (papers[count] == null) {
                papers[count] = new Receipt();
            }
            Receipt paper = papers[count];
            paper.holder = holder;
            paper.sacks = sacks;
            paper.year = year;
            paper.first = null;
            paper.second = null;
            count++;
            return count - 1;
        }

        long sacksInAll() {
            return sacksBefore(YEARS);
        }

        long sacksBefore(int year) {
            long all = 0;
            for (int n = 0; n < count; n++) {
                if (papers[n].year < year) {
                    all += papers[n].sacks;
                }
            }
            return all;
        }

        long rot(int damp) {
            long lost = 0;
            for (int n = 0; n < count; n++) {
                int less = (int) ((long) papers[n].sacks * damp / 1000);
                papers[n].sacks -= less;
                lost += less;
            }
            return lost;
        }
    }

    private static final class Land {
        final Terms terms;
        final Grower[] growers = new Grower[GROWERS];
        final Bank[] banks = new Bank[BANKS];
        final Store store = new Store();
        final Judge judge = new Judge();
        final int[] yields = new int[YEARS];
        final int[] parts = new int[YEARS];
        final long[] sums = new long[SUMS];
        int settled;
        int year;
        int price = FIRST_PRICE;
        int wanted;
        int part;
        int unpaid;

        Land(Terms itsTerms) {
            terms = itsTerms;
            for (int n = 0; n < GROWERS; n++) {
                growers[n] = new Grower();
            }
            for (int n = 0; n < BANKS; n++) {
                banks[n] = new Bank();
            }
        }

        boolean hasGrower(int number) {
            return number >= 0 && number < settled;
        }

        int settle(int village, int acres) {
            if (settled >= GROWERS) {
                return NONE;
            }
            growers[settled].arrive(village, acres);
            settled++;
            return settled - 1;
        }

        /* When all years have gone there is no crop left to tell. */
        void tellCrop(int number, int sacks) {
            if (hasGrower(number) && year < YEARS) {
                growers[number].told[year] = sacks;
            }
        }

        long moneyOf(int holder) {
            if (hasGrower(holder)) {
                return growers[holder].money;
            }
            return isWithin(holder, GROWERS, GROWERS + BANKS - 1) ? banks[holder - GROWERS].money : 0;
        }

        void credit(int holder, long amount) {
            if (hasGrower(holder)) {
                growers[holder].money += amount;
            } else if (isWithin(holder, GROWERS, GROWERS + BANKS - 1)) {
                banks[holder - GROWERS].money += amount;
            }
        }

        long freeInAll() {
            long all = 0;
            for (int n = 0; n < settled; n++) {
                all += growers[n].free;
            }
            return all;
        }

        long moneyInAll() {
            long all = 0;
            for (int n = 0; n < settled; n++) {
                all += growers[n].money;
            }
            return all;
        }

        long bearingInAll() {
            long all = 0;
            for (int n = 0; n < settled; n++) {
                all += growers[n].bearing;
            }
            return all;
        }

        void liveAgain(Land first, Law law) {
            year = 0;
            price = FIRST_PRICE;
            store.count = 0;
            settled = 0;
            for (int n = 0; n < first.settled; n++) {
                settle(first.growers[n].village, first.growers[n].acres);
                System.arraycopy(first.growers[n].told, 0, growers[n].told, 0, YEARS);
            }
            for (int y = 0; y < first.year && y < YEARS; y++) {
                passYear(first.yields[y], law);
            }
        }

        void passYear(int yield, Law law) {
            if (!isWithin(year, 0, YEARS - 1)) {
                return;
            }
            int papersBefore = store.count;
            wanted = terms.wantedAt(price);
            yields[year] = yield;
            gatherCrops(yield);
            applyLaw(law);
            keepParts();
            sellStored(papersBefore);
            stillStored();
            long freeBefore = freeInAll();
            sellFree(freeBefore);
            stillFree();
            sums[SUM_DAMP] += store.rot(terms.damp);
            movePrice(freeBefore);
            tendVines();
            settleLoans();
            year++;
        }

        private void gatherCrops(int yield) {
            for (int n = 0; n < settled; n++) {
                Grower g = growers[n];
                int sacks = g.told[year] == NONE ? g.bearing * yield : g.told[year];
                g.crops[year] = sacks;
                g.free += sacks;
                sums[SUM_CROPS] += sacks;
            }
        }

        private void applyLaw(Law law) {
            long crop = 0;
            for (int n = 0; n < settled; n++) {
                crop += growers[n].crops[year];
            }
            judge.facts[FACT_CROP - FACT_CROP] = crop;
            judge.facts[FACT_STORE - FACT_CROP] = store.sacksInAll();
            judge.facts[FACT_OLD - FACT_CROP] = store.sacksBefore(year - 1);
            judge.facts[FACT_PRICE - FACT_CROP] = price;
            judge.facts[FACT_WANT - FACT_CROP] = wanted;
            judge.facts[FACT_YEAR - FACT_CROP] = year;
            judge.hear(law);
            part = judge.part;
            parts[year] = part;
        }

        private void keepParts() {
            for (int n = 0; n < settled; n++) {
                Grower g = growers[n];
                int crop = g.crops[year];
                g.kept = 0;
                g.freed[year] = judge.frees(g.village, crop);
                if (g.freed[year]) {
                    continue;
                }
                long due = (long) part * crop + g.rest;
                g.kept = (int) cutTo(due / 100, 0, crop);
                g.rest = due - 100L * g.kept;
                if (g.kept > 0) {
                    g.free -= g.kept;
                    store.issue(n, g.kept, year);
                    sums[SUM_KEPT] += g.kept;
                }
            }
        }

        private void sellStored(int papersBefore) {
            long left = judge.sold;
            for (int n = 0; n < papersBefore && n < store.count; n++) {
                Receipt paper = store.papers[n];
                int sacks = (int) Math.min(left, paper.sacks);
                paper.sacks -= sacks;
                left -= sacks;
                credit(paper.holder, (long) sacks * price);
                sums[SUM_STORE_ABROAD] += sacks;
            }
        }

        private void stillStored() {
            if (judge.still == NONE) {
                return;
            }
            for (int n = 0; n < store.count; n++) {
                Receipt paper = store.papers[n];
                if (year - paper.year > judge.still) {
                    credit(paper.holder, (long) paper.sacks * (price / 4));
                    sums[SUM_STORE_STILLED] += paper.sacks;
                    paper.sacks = 0;
                }
            }
        }

        private void sellFree(long freeBefore) {
            if (freeBefore <= 0) {
                return;
            }
            long abroad = cutTo(wanted - judge.sold, 0, freeBefore);
            long left = abroad;
            for (int n = 0; n < settled; n++) {
                int sacks = (int) (growers[n].free * abroad / freeBefore);
                growers[n].sell(sacks, price);
                left -= sacks;
            }
            for (int round = 0; round < GROWERS && left > 0; round++) {
                left -= sellOneEach(left);
            }
            sums[SUM_FREE_ABROAD] += abroad - left;
        }

        private long sellOneEach(long most) {
            long gone = 0;
            for (int n = 0; n < settled && gone < most; n++) {
                if (growers[n].free > 0) {
                    growers[n].sell(1, price);
                    gone++;
                }
            }
            return gone;
        }

        private void stillFree() {
            int left = terms.quota;
            for (int n = 0; n < settled; n++) {
                int sacks = Math.min(left, growers[n].free);
                growers[n].sell(sacks, price / 4);
                left -= sacks;
                sums[SUM_FREE_STILLED] += sacks;
            }
        }

        private void movePrice(long freeBefore) {
            long lack = wanted - freeBefore - judge.sold;
            price = (int) cutTo(price + lack * terms.pull / 1000, 1, MOST_PRICE);
        }

        private void tendVines() {
            for (int n = 0; n < settled; n++) {
                growers[n].growOlder();
                if (price >= terms.high && growers[n].money >= 0) {
                    growers[n].plant(terms.plant);
                }
            }
        }

        int putRight(int number, int gone, int sacks) {
            Grower g = growers[number];
            int more = g.freed[gone] ? 0 : parts[gone] * (sacks - g.crops[gone]) / 100;
            g.rest += 100L * more;
            g.crops[gone] = sacks;
            return more;
        }

        long offer(Receipt paper, int bank) {
            long lent = (long) paper.sacks * price * banks[bank].part / 100;
            return paper.first == null ? lent : lent / 2;
        }

        void lend(Receipt paper, int bank, long lent, int due) {
            paper.bear(new Loan(bank, due, lent * (100 + banks[bank].rate) / 100));
            credit(paper.holder, lent);
            banks[bank].money -= lent;
        }

        void payBack(Receipt paper, Loan loan) {
            credit(paper.holder, -loan.owed);
            banks[loan.bank].money += loan.owed;
            paper.drop(loan);
        }

        /* Paying the first loan moves the second up, so both are named before either is closed. */
        private void settleLoans() {
            int papers = store.count;
            for (int n = 0; n < papers; n++) {
                Receipt paper = store.papers[n];
                Loan first = paper.first;
                Loan second = paper.second;
                closeIfDue(paper, first);
                closeIfDue(paper, second);
            }
        }

        private void closeIfDue(Receipt paper, Loan loan) {
            if (!paper.bears(loan) || loan.due > year) {
                return;
            }
            if (moneyOf(paper.holder) >= loan.owed) {
                payBack(paper, loan);
            } else {
                seize(paper, loan);
            }
        }

        private void seize(Receipt paper, Loan loan) {
            unpaid++;
            int unit = Math.max(1, price);
            long needed = (loan.owed + unit - 1) / unit;
            if (needed >= paper.sacks || store.isFull()) {
                paper.holder = GROWERS + loan.bank;
                paper.first = null;
                paper.second = null;
                return;
            }
            paper.sacks -= (int) needed;
            store.issue(GROWERS + loan.bank, (int) needed, paper.year);
            paper.drop(loan);
        }
    }

    /** A text that was read: of each clause its kind, the code of its sum, and behind it that of its conditions. */
    private static final class Law {
        final int[] kinds;
        final int[] starts;
        final int[] middles;
        final int[] ends;
        final int[] code;
        int clauses;
        int used;

        Law(int clauseRoom, int codeRoom) {
            kinds = new int[Math.max(0, clauseRoom)];
            starts = new int[kinds.length];
            middles = new int[kinds.length];
            ends = new int[kinds.length];
            code = new int[Math.max(0, codeRoom)];
        }

        Law copy() {
            Law twin = new Law(clauses, used);
            twin.clauses = clauses;
            twin.used = used;
            System.arraycopy(kinds, 0, twin.kinds, 0, clauses);
            System.arraycopy(starts, 0, twin.starts, 0, clauses);
            System.arraycopy(middles, 0, twin.middles, 0, clauses);
            System.arraycopy(ends, 0, twin.ends, 0, clauses);
            System.arraycopy(code, 0, twin.code, 0, used);
            return twin;
        }

        void emit(int op) {
            if (used < code.length) {
                code[used] = op;
                used++;
            }
        }

        void addClause(int kind, int start, int middle) {
            if (clauses < kinds.length) {
                kinds[clauses] = kind;
                starts[clauses] = start;
                middles[clauses] = middle;
                ends[clauses] = used;
                clauses++;
            }
        }
    }

    /** What a law says in a year. */
    private static final class Judge {
        final long[] facts = new long[FACTS];
        final long[] stack = new long[STACK_ROOM];
        final boolean[] villages = new boolean[VILLAGES];
        boolean partTold;
        boolean soldTold;
        int part;
        int still;
        long least;
        long sold;

        boolean frees(int village, int crop) {
            return crop < least || (isWithin(village, 0, VILLAGES - 1) && villages[village]);
        }

        void hear(Law law) {
            partTold = false;
            soldTold = false;
            part = 0;
            sold = 0;
            least = 0;
            still = NONE;
            for (int v = 0; v < VILLAGES; v++) {
                villages[v] = false;
            }
            if (law == null) {
                return;
            }
            for (int c = 0; c < law.clauses; c++) {
                boolean holds = law.middles[c] == law.ends[c] || run(law, law.middles[c], law.ends[c]) != 0;
                if (holds) {
                    obey(law.kinds[c], run(law, law.starts[c], law.middles[c]));
                }
            }
        }

        private void obey(int kind, long value) {
            switch (kind) {
                case KEEP:
                    part = partTold ? part : (int) cutTo(value, 0, 100);
                    partTold = true;
                    break;
                case SELL:
                    sold = soldTold ? sold : cutTo(value, 0, facts[FACT_STORE - FACT_CROP]);
                    soldTold = true;
                    break;
                case FREE:
                    if (value >= 0 && value < VILLAGES) {
                        villages[(int) value] = true;
                    }
                    break;
                case LEAST:
                    least = Math.max(least, value);
                    break;
                default:
                    still = still == NONE ? (int) value : Math.min(still, (int) value);
                    break;
            }
        }

        private long run(Law law, int from, int to) {
            int top = 0;
            for (int i = from; i < to; i++) {
                int op = law.code[i];
                boolean fact = isWithin(-op, FACT_CROP, FACT_YEAR);
                if (op >= 0 || fact) {
                    if (top < STACK_ROOM) {
                        stack[top] = fact ? facts[-op - FACT_CROP] : op;
                        top++;
                    }
                } else if (top >= 2) {
                    stack[top - 2] = join(-op, stack[top - 2], stack[top - 1]);
                    top--;
                }
            }
            return top > 0 ? stack[0] : 0;
        }

        private static long join(int kind, long a, long b) {
            switch (kind) {
                case PLUS: return a + b;
                case MINUS: return a - b;
                case TIMES: return a * b;
                case OVER: return b == 0 ? 0 : a / b;
                case LESS: return a < b ? 1 : 0;
                case MORE: return a > b ? 1 : 0;
                case EQUAL: return a == b ? 1 : 0;
                default: return a & b;
            }
        }
    }

    /** The TAPE, and how it is read as a law. */
    private static final class Tape {
        final byte[] bytes = new byte[TAPE_ROOM];
        final int[] kinds = new int[TAPE_ROOM + 1];
        final int[] places = new int[TAPE_ROOM + 1];
        final int[] values = new int[TAPE_ROOM + 1];
        int length;
        int fault = NONE;
        int tokens;
        int at;
        Law law;

        void append(int four) {
            for (int shift = 24; shift >= 0 && length < TAPE_ROOM; shift -= 8) {
                bytes[length] = (byte) (four >> shift);
                length++;
            }
        }

        /* The tape is empty afterwards, whether there was a fault or not. */
        boolean readLaw(Law into) {
            law = into;
            law.clauses = 0;
            law.used = 0;
            fault = NONE;
            at = 0;
            scan();
            length = 0;
            boolean fine = readClause();
            for (int n = 0; n < TAPE_ROOM && fine && kinds[at] == SEMICOLON; n++) {
                step();
                fine = readClause();
            }
            return fine && (kinds[at] == TEXT_END || refuse());
        }

        private void scan() {
            tokens = 0;
            int stop = 0;
            for (int i = 0; i < length; i = Math.max(i + 1, stop)) {
                stop = stopOf(i);
                if (bytes[i] != ' ' && bytes[i] != '\n') {
                    kinds[tokens] = kindOf(i, stop);
                    places[tokens] = i;
                    values[tokens] = kinds[tokens] == NUMBER ? numberOf(i, stop) : 0;
                    tokens++;
                }
            }
            kinds[tokens] = TEXT_END;
            places[tokens] = length;
            tokens++;
        }

        private boolean isLetter(int i) {
            return bytes[i] >= 'a' && bytes[i] <= 'z';
        }

        private boolean isDigit(int i) {
            return bytes[i] >= '0' && bytes[i] <= '9';
        }

        private int stopOf(int from) {
            boolean word = isLetter(from);
            boolean number = isDigit(from);
            int i = from + 1;
            while (i < length && ((word && isLetter(i)) || (number && isDigit(i)))) {
                i++;
            }
            return i;
        }

        private int kindOf(int from, int stop) {
            if (isLetter(from)) {
                return kindOfWord(from, stop);
            }
            if (isDigit(from)) {
                return numberOf(from, stop) > MOST_NUMBER ? BAD : NUMBER;
            }
            switch (bytes[from]) {
                case '+': return PLUS;
                case '-': return MINUS;
                case '*': return TIMES;
                case '/': return OVER;
                case '(': return OPEN;
                case ')': return CLOSE;
                case '<': return LESS;
                case '>': return MORE;
                case '=': return EQUAL;
                case ';': return SEMICOLON;
                default: return BAD;
            }
        }

        /* A number of any digits: what is too great stays so, instead of going around. */
        private int numberOf(int from, int stop) {
            int value = 0;
            for (int i = from; i < stop; i++) {
                value = Math.min(MOST_NUMBER + 1, value * 10 + bytes[i] - '0');
            }
            return value;
        }

        private int kindOfWord(int from, int stop) {
            if (spells(from, stop, "keep")) return KEEP;
            if (spells(from, stop, "sell")) return SELL;
            if (spells(from, stop, "free")) return FREE;
            if (spells(from, stop, "least")) return LEAST;
            if (spells(from, stop, "still")) return STILL;
            if (spells(from, stop, "if")) return IF;
            if (spells(from, stop, "and")) return AND;
            if (spells(from, stop, "crop")) return FACT_CROP;
            if (spells(from, stop, "store")) return FACT_STORE;
            if (spells(from, stop, "old")) return FACT_OLD;
            if (spells(from, stop, "price")) return FACT_PRICE;
            if (spells(from, stop, "want")) return FACT_WANT;
            if (spells(from, stop, "year")) return FACT_YEAR;
            return BAD;
        }

        private boolean spells(int from, int stop, String word) {
            if (stop - from != word.length()) {
                return false;
            }
            for (int i = 0; i < word.length(); i++) {
                if (bytes[from + i] != word.charAt(i)) {
                    return false;
                }
            }
            return true;
        }

        /* The end of the text is never stepped over, so that there is always a token to look at. */
        private void step() {
            if (at < tokens - 1) {
                at++;
            }
        }

        private boolean refuse() {
            fault = places[at];
            return false;
        }

        private boolean readClause() {
            int kind = kinds[at];
            if (!isWithin(kind, KEEP, STILL) || law.clauses >= CLAUSES) {
                return refuse();
            }
            step();
            int start = law.used;
            if (kind == FREE || kind == LEAST || kind == STILL) {
                if (kinds[at] != NUMBER) {
                    return refuse();
                }
                law.emit(values[at]);
                step();
            } else if (!readSum(0)) {
                return false;
            }
            int middle = law.used;
            boolean mayDepend = kind == KEEP || kind == SELL;
            if (mayDepend && kinds[at] == IF && !readConditions()) {
                return false;
            }
            law.addClause(kind, start, middle);
            return true;
        }

        private boolean readConditions() {
            for (int n = 0; n < TAPE_ROOM && (n == 0 || kinds[at] == AND); n++) {
                step();
                if (!readSum(0)) {
                    return false;
                }
                int sign = kinds[at];
                if (!isWithin(sign, LESS, EQUAL)) {
                    return refuse();
                }
                step();
                if (!readSum(0)) {
                    return false;
                }
                law.emit(-sign);
                if (n > 0) {
                    law.emit(-AND);
                }
            }
            return true;
        }

        private boolean readSum(int depth) {
            boolean fine = readTerm(depth);
            for (int n = 0; n < TAPE_ROOM && fine && isWithin(kinds[at], PLUS, MINUS); n++) {
                int sign = kinds[at];
                step();
                fine = readTerm(depth);
                law.emit(-sign);
            }
            return fine;
        }

        private boolean readTerm(int depth) {
            boolean fine = readFactor(depth);
            for (int n = 0; n < TAPE_ROOM && fine && isWithin(kinds[at], TIMES, OVER); n++) {
                int sign = kinds[at];
                step();
                fine = readFactor(depth);
                law.emit(-sign);
            }
            return fine;
        }

        private boolean readFactor(int depth) {
            int kind = kinds[at];
            if (kind == NUMBER || isWithin(kind, FACT_CROP, FACT_YEAR)) {
                law.emit(kind == NUMBER ? values[at] : -kind);
                step();
                return true;
            }
            if (kind != OPEN || depth >= DEEPEST) {
                return refuse();
            }
            step();
            if (!readSum(depth + 1)) {
                return false;
            }
            if (kinds[at] != CLOSE) {
                return refuse();
            }
            step();
            return true;
        }
    }

    /** The SLOTS, side by side in one array, so that a row can be carried over itself. */
    private static final class Rows {
        final long[] cells = new long[SLOTS * ROW_ROOM];
        final int[] widths = new int[SLOTS];
        final int[] lengths = new int[SLOTS];

        Rows() {
            Arrays.fill(lengths, NONE);
        }

        boolean hasRow(int slot) {
            return isWithin(slot, 0, SLOTS - 1) && lengths[slot] != NONE;
        }

        boolean holds(int slot, int from, int n) {
            return from >= 0 && n >= 0 && (long) from + n <= lengths[slot];
        }

        int filledSlots() {
            int filled = 0;
            for (int slot = 0; slot < SLOTS; slot++) {
                if (lengths[slot] != NONE) {
                    filled++;
                }
            }
            return filled;
        }

        void lay(int slot, int width, int n) {
            widths[slot] = width;
            lengths[slot] = n;
            for (int i = 0; i < n && i < ROW_ROOM; i++) {
                cells[slot * ROW_ROOM + i] = 0;
            }
        }

        long numberAt(int slot, int i) {
            return cells[slot * ROW_ROOM + i];
        }

        void set(int slot, int i, long v) {
            int place = slot * ROW_ROOM + i;
            switch (widths[slot]) {
                case 0: cells[place] = (byte) v; break;
                case 1: cells[place] = (short) v; break;
                case 2: cells[place] = (int) v; break;
                default: cells[place] = v; break;
            }
        }

        void carry(int slot, int i, int to, int k, int n) {
            System.arraycopy(cells, slot * ROW_ROOM + i, cells, to * ROW_ROOM + k, n);
        }
    }
}
