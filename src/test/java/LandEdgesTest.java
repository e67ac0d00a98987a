/** The edges that Terms I, II, VI and VII name, sentence by sentence. */
public final class LandEdgesTest {
    private static final Check check = new Check();

    public static void main(String[] args) {
        thirtyYears();
        twelveGrowers();
        villages();
        nothingAtFirst();
        fourHundredReceipts();
        receiptWithoutSacks();
        storeOfAll();
        banksAreHolders();
        firstPartAndRate();
        rangesOfTerms();
        firstTerms();
        priceWithin();
        wantedIsCut();
        wantedIsZeroAtLeast();
        oneOfTwentySets();
        orMoreAndOrFewer();
        slotsAndWidths();
        sixtyAtMost();
        check.finish();
    }

    private static void thirtyYears() {
        check.sentence("YEARS go from 0 on, 30 at most.");
        SurplusLand x = new SurplusLand();
        check.due("the first YEAR", x.count(0), 0);
        for (int y = 1; y <= 30; y++) {
            check.due("go " + y, x.go(0), y);
        }
        check.due("one more", x.go(0), -9);
        check.due("YEAR", x.count(0), 30);
    }

    private static void twelveGrowers() {
        check.sentence("GROWERS 0 .., 12 at most");
        SurplusLand x = new SurplusLand();
        for (int n = 0; n < 12; n++) {
            check.due("grower", x.grower(0, 1), n);
        }
        check.due("a thirteenth", x.grower(0, 1), -3);
        check.due("GROWERS", x.count(1), 12);
        check.due("the last one", x.growerOf(11, 1), 1);
        check.due("none behind it", x.growerOf(12, 1), -1000000);
    }

    private static void villages() {
        check.sentence("are of a VILLAGE (0 .. 7)");
        SurplusLand x = new SurplusLand();
        check.due("-1", x.grower(-1, 1), -2);
        check.due("8", x.grower(8, 1), -2);
        check.due("0", x.grower(0, 1), 0);
        check.due("7", x.grower(7, 1), 1);
        check.due("its VILLAGE", x.growerOf(0, 0), 0);
        check.due("its VILLAGE", x.growerOf(1, 0), 7);
    }

    private static void nothingAtFirst() {
        check.sentence("YOUNG ones of 0, 1, 2 YEARS (none at first), FREE sacks, MONEY (0 at first; it may be below 0)"
            + " and a REST (0 at first).");
        SurplusLand x = new SurplusLand();
        x.grower(4, 1000);
        for (int what = 2; what <= 6; what++) {
            check.due("growerOf(0, " + what + ")", x.growerOf(0, what), 0);
        }
        check.due("MONEY", x.money(0), 0);
        SurplusLand y = Lands.stored(100);
        y.pledge(0, 1, 1);
        check.due("MONEY below 0, of a BANK", y.money(13), -5000);
        y.right(0, 0, 0);
        check.due("a REST below 0", y.growerOf(0, 6), -10000);
    }

    private static void fourHundredReceipts() {
        check.sentence("RECEIPTS are numbered from 0 on, 400 at most");
        SurplusLand x = Lands.stored(1000);
        check.due("the first", x.receipt(0, 1), 1000);
        for (int n = 1; n < 400; n++) {
            check.due("split", x.split(0, 1), n);
        }
        check.due("one more", x.split(0, 1), -3);
        check.due("RECEIPTS", x.count(2), 400);
        check.due("the last", x.receipt(399, 1), 1);
        check.due("none behind it", x.receipt(400, 1), -2);
    }

    private static void receiptWithoutSacks() {
        check.sentence("One without sacks stays as a number.");
        SurplusLand x = Lands.stored(40, 30);
        x.go(0);
        x.go(0);
        check.due("taken back", x.redeem(0), 40);
        check.due("RECEIPTS", x.count(2), 2);
        check.due("its sacks", x.receipt(0, 1), 0);
        check.due("its HOLDER", x.receipt(0, 0), 0);
        check.due("the other keeps its number", x.receipt(1, 1), 30);
        check.due("the next number", x.split(1, 1), 2);
    }

    private static void storeOfAll() {
        check.sentence("The STORE: the sacks of all RECEIPTS.");
        check.due("without any", new SurplusLand().count(4), 0);
        SurplusLand x = Lands.stored(500000, 499999, 1);
        check.due("of three", x.count(4), 1000000);
        x.split(0, 499999);
        check.due("of four", x.count(4), 1000000);
    }

    private static void banksAreHolders() {
        check.sentence("BANKS 0 .. 2 are HOLDERS 12 .. 14, with MONEY (0 at first)");
        for (int b = 0; b < 3; b++) {
            SurplusLand x = Lands.stored(10);
            x.bank(b, 100, 100);
            for (int holder = 11; holder <= 15; holder++) {
                check.due("MONEY of " + holder, x.money(holder), 0);
            }
            x.pledge(0, b, 1);
            for (int holder = 11; holder <= 15; holder++) {
                check.due("then MONEY of " + holder, x.money(holder), holder == 12 + b ? -1000 : 0);
            }
            x.go(0);
            x.go(0);
            check.due("HOLDER", x.receipt(0, 0), 12 + b);
        }
    }

    private static void firstPartAndRate() {
        check.sentence("a PART (at first 50) and a RATE (10).");
        for (int b = 0; b < 3; b++) {
            SurplusLand x = Lands.stored(10);
            check.due("LENT by " + b, x.pledge(0, b, 1), 500);
            check.due("OWED to " + b, x.owed(0, 1), 550);
        }
    }

    private static int withTerm(int i, int v) {
        int[] t = {1000, 100, 100, 100, 120, 10, 0};
        t[i] = v;
        return new SurplusLand().terms(t[0], t[1], t[2], t[3], t[4], t[5], t[6]);
    }

    private static void rangesOfTerms() {
        String[] names = {"BASE (0 .. 10000000; at first 1000)", "SLOPE (0 .. 1000000; 100)", "PULL (0 .. 1000; 100)",
            "QUOTA (0 .. 10000000; 100)", "HIGH (1 .. 10000; 120)", "PLANT (0 .. 100; 10)", "DAMP (0 .. 200; 0)"};
        int[] least = {0, 0, 0, 0, 1, 0, 0};
        int[] most = {10000000, 1000000, 1000, 10000000, 10000, 100, 200};
        for (int i = 0; i < 7; i++) {
            check.sentence(names[i]);
            check.due("too small", withTerm(i, least[i] - 1), -2);
            check.due("the least", withTerm(i, least[i]), 0);
            check.due("the most", withTerm(i, most[i]), 0);
            check.due("too large", withTerm(i, most[i] + 1), -2);
            check.due("far too small", withTerm(i, Integer.MIN_VALUE), -2);
            check.due("far too large", withTerm(i, Integer.MAX_VALUE), -2);
        }
    }

    /** Each first term, seen alone in a year without any other call of terms(). */
    private static void firstTerms() {
        check.sentence("BASE (0 .. 10000000; at first 1000), SLOPE (0 .. 1000000; 100), PULL (0 .. 1000; 100)");
        SurplusLand x = new SurplusLand();
        x.go(0);
        check.due("1000 less 100 * 100 / 100", x.count(6), 900);
        check.due("900 * 100 / 1000 more", x.count(3), 190);
        x.go(0);
        check.due("1000 less 100 * 190 / 100", x.count(6), 810);
        check.sentence("QUOTA (0 .. 10000000; 100), HIGH (1 .. 10000; 120), PLANT (0 .. 100; 10), DAMP (0 .. 200; 0)");
        SurplusLand y = new SurplusLand();
        y.grower(0, 100);
        Check.law(y, "keep 50", 0, 0);
        y.crop(0, 2202);
        y.go(0);
        check.due("QUOTA", y.sum(4), 100);
        check.due("DAMP", y.sum(6), 0);
        plantedAt(701, 119, 0);
        plantedAt(700, 120, 10);
    }

    private static void plantedAt(int crop, int price, int acres) {
        SurplusLand x = new SurplusLand();
        x.grower(0, 100);
        x.crop(0, crop);
        x.go(0);
        check.due("PRICE", x.count(3), price);
        check.due("HIGH and PLANT", x.growerOf(0, 2), acres);
    }

    private static void priceWithin() {
        check.sentence("PRICE is 1 .. 10000.");
        SurplusLand x = Lands.quiet(0);
        Lands.price(x, 1);
        check.due("1", x.count(3), 1);
        x.terms(0, 0, 1000, 0, 10000, 0, 0);
        x.go(0);
        check.due("not below", x.count(3), 1);
        SurplusLand y = Lands.quiet(0);
        Lands.price(y, 10000);
        check.due("10000", y.count(3), 10000);
        y.terms(1, 0, 1000, 0, 10000, 0, 0);
        y.go(0);
        check.due("not above", y.count(3), 10000);
    }

    private static int wantedAt(int base, int slope, int price) {
        SurplusLand x = Lands.quiet(0);
        Lands.price(x, price);
        x.terms(base, slope, 0, 0, 10000, 0, 0);
        x.go(0);
        return x.count(6);
    }

    private static void wantedIsCut() {
        check.sentence("WANTED are BASE less SLOPE * PRICE / 100 (cut) sacks");
        check.due("99 / 100", wantedAt(1000, 1, 99), 1000);
        check.due("100 / 100", wantedAt(1000, 1, 100), 999);
        check.due("199 / 100", wantedAt(1000, 1, 199), 999);
        check.due("200 / 100", wantedAt(1000, 2, 100), 998);
        check.due("SLOPE 0", wantedAt(10000000, 0, 10000), 10000000);
        check.due("more than 31 bits", wantedAt(10000000, 90000, 10000), 1000000);
    }

    private static void wantedIsZeroAtLeast() {
        check.sentence("WANTED are BASE less SLOPE * PRICE / 100 (cut) sacks, 0 at least.");
        check.due("1", wantedAt(101, 100, 100), 1);
        check.due("0", wantedAt(100, 100, 100), 0);
        check.due("-1", wantedAt(99, 100, 100), 0);
        check.due("BASE 0", wantedAt(0, 1, 100), 0);
        check.due("far below", wantedAt(0, 1000000, 10000), 0);
    }

    private static void oneOfTwentySets() {
        check.sentence("come in one of 20 sets or more.");
        SurplusLand x = new SurplusLand();
        check.due("1 of 20", x.light(20, 1, 1, 0), 1);
        check.due("1 of 21 is too few", x.light(21, 1, 1, 0), 2);
        check.due("2 of 40", x.light(40, 1, 1, 0), 2);
        check.due("2 of 41 is too few", x.light(41, 1, 1, 0), 3);
        check.due("3 of 60", x.light(60, 1, 1, 0), 3);
        check.due("1 of 20", x.light(20, 1, 0, 1), 19);
        check.due("1 of 21 is too few", x.light(21, 1, 0, 1), 19);
        check.due("3 of 60", x.light(60, 1, 0, 1), 57);
        check.due("1 of 20 sets of 3 of 6", x.light(6, 3, 3, 0), 3);
        check.due("1 of 20 sets of 3 of 6", x.light(6, 3, 0, 1), 3);
        check.due("1 of 35 sets of 3 of 7 is too few", x.light(7, 3, 3, 0), 4);
        check.due("1 of 35 sets of 3 of 7 is too few", x.light(7, 3, 0, 1), 3);
        check.due("the most sets", x.light(60, 30, 15, 0), 23);
        check.due("the most sets", x.light(60, 30, 15, 1), 37);
    }

    private static void orMoreAndOrFewer() {
        check.sentence("L is not beyond if k or more light ones (for the least L), k or fewer (for the greatest L)");
        SurplusLand x = new SurplusLand();
        check.due("0 or more come always", x.light(60, 30, 0, 0), 0);
        check.due("n or fewer come always", x.light(60, 30, 30, 1), 60);
        check.due("all are drawn", x.light(60, 60, 17, 0), 17);
        check.due("all are drawn", x.light(60, 60, 17, 1), 17);
        check.due("2 of 4, or more than that", x.light(4, 2, 1, 0), 1);
        check.due("1 or 2", x.light(5, 2, 1, 0), 1);
        check.due("0 or 1", x.light(5, 2, 1, 1), 4);
    }

    private static void slotsAndWidths() {
        check.sentence("SLOTS 0 .. 3 have rows of numbers of 1, 2, 4 or 8 bytes (WIDTH 0 .. 3)");
        SurplusLand x = new SurplusLand();
        for (int n = -1; n <= 4; n++) {
            boolean fits = n >= 0 && n <= 3;
            check.due("SLOT " + n, x.row(n, 0, 1), fits ? 0 : -2);
            check.due("WIDTH " + n, x.row(0, n, 1), fits ? 0 : -2);
        }
        check.due("rows", x.count(10), 4);
        long[] most = {127, 32767, 500000, 500000};
        for (int width = 0; width < 4; width++) {
            SurplusLand y = Lands.quiet(1);
            y.row(0, width, 1);
            y.write(0, 0, most[width]);
            y.crops(0);
            y.go(0);
            check.due("the most of WIDTH " + width, y.growerOf(0, 7), most[width]);
        }
    }

    private static void sixtyAtMost() {
        check.sentence("at most 60, or nothing.");
        SurplusLand x = new SurplusLand();
        for (int width = 0; width < 4; width++) {
            check.due("60 of WIDTH " + width, x.row(width, width, 60), 0);
            check.due("61 of WIDTH " + width, x.row(width, width, 61), -2);
            check.due("the last number", x.write(width, 59, 1), 0);
            check.due("none behind it", x.write(width, 60, 1), -6);
        }
        check.due("nothing", x.tear(2), true);
        check.due("nothing", x.write(2, 0, 1), -5);
    }
}
