/** The edges that Terms IV names, step by step, and those of putting right. */
public final class YearEdgesTest {
    private static final Check check = new Check();

    public static void main(String[] args) {
        toldElseAcres();
        whoIsFreed();
        keptIsCut();
        keptIsZeroAtLeast();
        keptIsTheCropAtMost();
        receiptIfKept();
        soldOfTheOldReceipts();
        soldAsFarAsItGoes();
        ifThereIsAStill();
        moreThanSoManyYearsBack();
        quarterIsCut();
        wantedLessSold();
        atMostAllFree();
        shareIsCut();
        oneMoreEach();
        upToQuota();
        whatIsLeftStays();
        dampIsCut();
        priceIsCutTowardsZero();
        priceIsCutToItsRange();
        youngGrowOlder();
        highOrMore();
        moneyOfZeroOrMore();
        plantIsCut();
        fiveThousandAcres();
        dueInThisYear();
        loansByReceipts();
        rightIsCut();
        rightFromNowOn();
        rightOfTheFreed();
        check.finish();
    }

    private static void toldElseAcres() {
        check.sentence("The CROP of a GROWER is what was told for this YEAR, else BEARING acres times the yield. All of it"
            + " is FREE.");
        SurplusLand x = Lands.quiet(1000, 0, 1000, 1);
        x.crop(0, 0);
        x.crop(1, 500000);
        x.go(100);
        int[] crops = {0, 500000, 100000, 100};
        for (int n = 0; n < 4; n++) {
            check.due("CROP of " + n, x.growerOf(n, 7), crops[n]);
            check.due("FREE of " + n, x.growerOf(n, 5), crops[n]);
        }
        x.go(1);
        check.due("told for that YEAR alone", x.growerOf(0, 7), 1000);
        check.due("told for that YEAR alone", x.growerOf(1, 7), 0);
        x.go(0);
        check.due("a yield of 0", x.growerOf(2, 7), 0);
        check.due("FREE ones add up", x.growerOf(0, 5), 1000);
        check.due("all CROPS", x.sum(0), 600100 + 2001);
    }

    private static void whoIsFreed() {
        check.sentence("Who isn't freed, by numbers: DUE is PART * CROP and the REST");
        SurplusLand x = Lands.quiet(0, 0, 0);
        x.crop(0, 7);
        x.crop(1, 7);
        x.crop(2, 7);
        Check.law(x, "keep 50", 0, 0);
        x.go(0);
        for (int n = 0; n < 3; n++) {
            check.due("by numbers", x.receipt(n, 0), n);
            check.due("REST", x.growerOf(n, 6), 50);
            x.crop(n, 7);
        }
        Check.law(x, "keep 50;free 1", 1, 1);
        x.go(0);
        check.due("with the REST", x.growerOf(0, 8), 4);
        check.due("its REST", x.growerOf(0, 6), 0);
        check.due("freed: KEPT", x.growerOf(1, 8), 0);
        check.due("freed: the REST stays", x.growerOf(1, 6), 50);
        check.due("the next one's number", x.receipt(4, 0), 2);
        check.due("no other", x.count(2), 5);
    }

    private static void keptOf(String text, int crop, int kept, int rest) {
        SurplusLand x = Lands.quiet(0);
        x.crop(0, crop);
        Check.law(x, text, 0, 0);
        x.go(0);
        check.due(text + " of " + crop, x.growerOf(0, 8), kept);
        check.due(text + " of " + crop + ": REST", x.growerOf(0, 6), rest);
        check.due(text + " of " + crop + ": FREE", x.growerOf(0, 5), crop - kept);
        check.due(text + " of " + crop + ": STORE", x.count(4), kept);
    }

    private static void keptIsCut() {
        check.sentence("KEPT is DUE / 100 (cut)");
        keptOf("keep 99", 1, 0, 99);
        keptOf("keep 100", 1, 1, 0);
        keptOf("keep 33", 3, 0, 99);
        keptOf("keep 20", 5, 1, 0);
        keptOf("keep 67", 3, 2, 1);
        keptOf("keep 1", 500000, 5000, 0);
        keptOf("keep 99", 499999, 494999, 1);
        keptOf("keep 0", 500000, 0, 0);
    }

    /** A grower with a rest, in year 1 of a quiet land: so many sacks more or fewer were to be kept. */
    private static SurplusLand withRest(int sacks) {
        SurplusLand x = Lands.stored(1000);
        check.due("put right", x.right(0, 0, 1000 + sacks), sacks);
        check.due("the REST", x.growerOf(0, 6), 100 * sacks);
        return x;
    }

    private static void keptIsZeroAtLeast() {
        check.sentence("KEPT is DUE / 100 (cut), 0 at least");
        SurplusLand x = withRest(-1);
        Check.law(x, "keep 99", 1, 3);
        x.crop(0, 1);
        x.go(0);
        check.due("DUE of -1", x.growerOf(0, 8), 0);
        check.due("the REST", x.growerOf(0, 6), -1);
        check.due("all stays FREE", x.growerOf(0, 5), 1);
        SurplusLand y = withRest(-500);
        Check.law(y, "keep 50", 1, 3);
        y.crop(0, 999);
        y.go(0);
        check.due("DUE of -50", y.growerOf(0, 8), 0);
        check.due("the REST", y.growerOf(0, 6), -50);
        y.crop(0, 1);
        y.go(0);
        check.due("DUE of 0", y.growerOf(0, 8), 0);
        check.due("the REST", y.growerOf(0, 6), 0);
        SurplusLand z = withRest(-1000);
        z.go(0);
        check.due("DUE of -100000", z.growerOf(0, 8), 0);
        check.due("the REST", z.growerOf(0, 6), -100000);
    }

    private static void keptIsTheCropAtMost() {
        check.sentence("0 at least, the CROP at most; the REST is DUE less 100 * KEPT.");
        SurplusLand x = withRest(30);
        x.crop(0, 29);
        x.go(0);
        check.due("one below", x.growerOf(0, 8), 29);
        check.due("the REST", x.growerOf(0, 6), 100);
        check.due("FREE", x.growerOf(0, 5), 0);
        SurplusLand y = withRest(30);
        y.crop(0, 30);
        y.go(0);
        check.due("just all", y.growerOf(0, 8), 30);
        check.due("the REST", y.growerOf(0, 6), 0);
        SurplusLand z = withRest(30);
        z.crop(0, 31);
        z.go(0);
        check.due("one stays FREE", z.growerOf(0, 5), 1);
        SurplusLand none = withRest(499000);
        none.crop(0, 0);
        none.go(0);
        check.due("no CROP", none.growerOf(0, 8), 0);
        check.due("the REST stays", none.growerOf(0, 6), 49900000);
        keptOf("keep 100", 500000, 500000, 0);
    }

    private static void receiptIfKept() {
        check.sentence("If KEPT is above 0 it goes from FREE into the STORE, on a RECEIPT of this YEAR.");
        SurplusLand x = Lands.quiet(0, 0);
        x.crop(0, 1);
        x.crop(1, 2);
        Check.law(x, "keep 50", 0, 1);
        x.go(0);
        check.due("one RECEIPT", x.count(2), 1);
        check.due("of the second", x.receipt(0, 0), 1);
        check.due("1 sack", x.receipt(0, 1), 1);
        x.crop(0, 1);
        x.go(0);
        check.due("a RECEIPT of YEAR 1", x.receipt(1, 2), 1);
        check.due("with the REST", x.receipt(1, 0), 0);
        check.due("none for 0 KEPT", x.count(2), 2);
        check.due("from FREE", x.count(5), 2);
    }

    private static void soldOfTheOldReceipts() {
        check.sentence("SOLD sacks of the STORE go abroad, of the RECEIPTS that there were as the YEAR began, by numbers");
        SurplusLand x = Lands.stored(5, 5);
        Check.law(x, "keep 100;sell 10", 1, 1);
        x.crop(0, 50);
        x.go(0);
        check.due("the first", x.receipt(0, 1), 0);
        check.due("the second", x.receipt(1, 1), 0);
        check.due("not the one of this YEAR", x.receipt(2, 1), 50);
        SurplusLand y = Lands.quiet(10);
        Check.law(y, "keep 100;sell 10", 0, 0);
        y.go(1);
        check.due("there were none", y.sum(3), 0);
        check.due("the one of this YEAR stays", y.count(4), 10);
    }

    private static void soldAsFarAsItGoes() {
        check.sentence("of each as far as it goes; its HOLDER gets PRICE for each.");
        int[] sold = {0, 1, 4, 5, 6, 11, 12, 13, 30};
        for (int n : sold) {
            SurplusLand x = Lands.stored(5, 7);
            Check.law(x, "sell " + n, 1, 1);
            x.go(0);
            int first = Math.min(n, 5);
            int second = Math.min(n, 12) - first;
            check.due("left of the first, sell " + n, x.receipt(0, 1), 5 - first);
            check.due("left of the second, sell " + n, x.receipt(1, 1), 7 - second);
            check.due("MONEY, sell " + n, x.money(0), 100 * first);
            check.due("MONEY, sell " + n, x.money(1), 100 * second);
        }
        for (int b = 0; b < 3; b++) {
            SurplusLand y = Lands.stored(5);
            y.bank(b, 100, 100);
            y.pledge(0, b, 1);
            y.go(0);
            y.go(0);
            Check.law(y, "sell 4", 3, 3);
            y.go(0);
            check.due("BANK " + b + " gets it too", y.money(12 + b), -500 + 400);
        }
    }

    private static void ifThereIsAStill() {
        check.sentence("If there is a STILL");
        SurplusLand x = Lands.stored(10);
        Check.law(x, "keep 100", 1, 1);
        for (int y = 1; y < 29; y++) {
            x.go(0);
        }
        check.due("no STILL, however old", x.sum(5), 0);
        Check.law(x, "still 28", 29, 29);
        x.go(0);
        check.due("29 YEARS back", x.sum(5), 10);
    }

    private static void moreThanSoManyYearsBack() {
        check.sentence("of RECEIPTS whose YEAR is more than so many YEARS back all sacks go to the stills");
        for (int back = 1; back < 5; back++) {
            SurplusLand x = Lands.stored(10);
            Check.law(x, "still " + (back - 1), back, back);
            SurplusLand y = Lands.stored(10);
            Check.law(y, "still " + back, back, back);
            for (int n = 0; n < back; n++) {
                x.go(0);
                y.go(0);
            }
            check.due(back + " is more than " + (back - 1), x.receipt(0, 1), 0);
            check.due(back + " is not more than " + back, y.receipt(0, 1), 10);
        }
        SurplusLand z = Lands.quiet(10);
        Check.law(z, "keep 100;still 0", 0, 0);
        z.go(1);
        check.due("0 is not more than 0", z.count(4), 10);
    }

    private static void quarterIsCut() {
        check.sentence("the HOLDER gets PRICE / 4 (cut) for each.");
        int[] prices = {1, 3, 4, 7, 8, 99, 100};
        for (int price : prices) {
            SurplusLand x = Lands.stored(1000);
            Lands.price(x, price);
            check.due("PRICE", x.count(3), price);
            Check.law(x, "still 1", 2, 2);
            x.go(0);
            check.due("all go at " + price, x.sum(5), 1000);
            check.due("MONEY at " + price, x.money(0), 1000 * (price / 4));
        }
        check.sentence("for PRICE / 4 (cut) each.");
        for (int price : prices) {
            SurplusLand x = Lands.quiet(0);
            Lands.price(x, price);
            int free = x.count(5);
            x.terms(0, 0, 0, free, 10000, 0, 0);
            x.go(0);
            check.due("MONEY of FREE ones at " + price, x.money(0), free * (price / 4));
        }
    }

    /** A store of 20 is sold from while 50 sacks are free: what goes abroad of these. */
    private static long abroad(int wanted, int sold) {
        SurplusLand x = Lands.stored(20);
        x.terms(wanted, 0, 0, 0, 10000, 0, 0);
        Check.law(x, "sell " + sold, 1, 1);
        x.crop(0, 50);
        x.go(0);
        check.due("SOLD", x.sum(3), sold);
        return x.sum(2);
    }

    private static void wantedLessSold() {
        check.sentence("E sacks go abroad: what is WANTED less SOLD (0 at least)");
        check.due("11 less 10", abroad(11, 10), 1);
        check.due("10 less 10", abroad(10, 10), 0);
        check.due("9 less 10", abroad(9, 10), 0);
        check.due("0 less 20", abroad(0, 20), 0);
        check.due("40 less 0", abroad(40, 0), 40);
    }

    private static void atMostAllFree() {
        check.sentence("but at most F, all FREE ones");
        check.due("49 of 50", abroad(49, 0), 49);
        check.due("50 of 50", abroad(50, 0), 50);
        check.due("51 of 50", abroad(51, 0), 50);
        check.due("51 less 1 of 50", abroad(51, 1), 50);
        check.due("far more", abroad(10000000, 0), 50);
        SurplusLand x = new SurplusLand();
        x.grower(0, 10);
        check.due("none is FREE", x.go(0), 1);
        check.due("none goes", x.sum(2), 0);
        check.due("no MONEY", x.money(0), 0);
        SurplusLand nobody = new SurplusLand();
        check.due("no GROWERS", nobody.go(100), 1);
        check.due("none goes", nobody.sum(2), 0);
    }

    /** The sacks that each has left when so many are wanted. */
    private static void left(int wanted, int[] crops, int[] due) {
        SurplusLand x = Lands.quiet(new int[crops.length]);
        x.terms(wanted, 0, 0, 0, 10000, 0, 0);
        for (int n = 0; n < crops.length; n++) {
            x.crop(n, crops[n]);
        }
        x.go(0);
        for (int n = 0; n < crops.length; n++) {
            check.due(wanted + " wanted, FREE of " + n, x.growerOf(n, 5), due[n]);
            check.due(wanted + " wanted, MONEY of " + n, x.money(n), 100L * (crops[n] - due[n]));
        }
    }

    private static void shareIsCut() {
        check.sentence("of each GROWER FREE * E / F (cut)");
        left(5, new int[] {10, 10}, new int[] {7, 8});
        left(4, new int[] {10, 10}, new int[] {8, 8});
        left(6, new int[] {1, 2, 9}, new int[] {0, 1, 5});
        left(400000, new int[] {500000, 300000}, new int[] {250000, 150000});
    }

    private static void oneMoreEach() {
        check.sentence("then of the first GROWERS that have some left one more each, round and round, until these are E.");
        left(1, new int[] {1, 1, 1}, new int[] {0, 1, 1});
        left(2, new int[] {1, 1, 1}, new int[] {0, 0, 1});
        left(3, new int[] {1, 1, 1}, new int[] {0, 0, 0});
        left(1, new int[] {1}, new int[] {0});
        left(1, new int[] {0, 0, 3}, new int[] {0, 0, 2});
        left(2, new int[] {0, 3, 0, 3, 3}, new int[] {0, 2, 0, 2, 3});
        left(11, new int[] {1, 1, 1, 1, 1, 1, 1, 1, 1, 1, 1, 1}, new int[] {0, 0, 0, 0, 0, 0, 0, 0, 0, 0, 0, 1});
        left(999, new int[] {1, 500}, new int[] {0, 0});
        left(500, new int[] {1, 500}, new int[] {0, 1});
        left(5, new int[] {500000, 1, 1}, new int[] {499995, 1, 1});
    }

    private static void quota(int quota, int first, int second) {
        SurplusLand x = Lands.quiet(10, 20);
        x.terms(0, 0, 0, quota, 10000, 0, 0);
        x.go(1);
        check.due("QUOTA " + quota + ", FREE of the first", x.growerOf(0, 5), 10 - first);
        check.due("QUOTA " + quota + ", FREE of the second", x.growerOf(1, 5), 20 - second);
        check.due("QUOTA " + quota + ", MONEY of the first", x.money(0), 25 * first);
        check.due("QUOTA " + quota + ", MONEY of the second", x.money(1), 25 * second);
        check.due("QUOTA " + quota + ", to the stills", x.sum(4), first + second);
    }

    private static void upToQuota() {
        check.sentence("Then the stills take, by numbers, FREE sacks up to QUOTA in all");
        quota(0, 0, 0);
        quota(1, 1, 0);
        quota(9, 9, 0);
        quota(10, 10, 0);
        quota(11, 10, 1);
        quota(29, 10, 19);
        quota(30, 10, 20);
        quota(31, 10, 20);
        quota(10000000, 10, 20);
    }

    private static void whatIsLeftStays() {
        check.sentence("What is left stays FREE.");
        SurplusLand x = Lands.quiet(100);
        x.terms(7, 0, 0, 5, 10000, 0, 0);
        x.go(1);
        check.due("88", x.growerOf(0, 5), 88);
        x.go(0);
        check.due("76", x.growerOf(0, 5), 76);
        for (int y = 2; y < 9; y++) {
            x.go(0);
        }
        check.due("none is left at last", x.growerOf(0, 5), 0);
        check.due("all went", x.sum(2) + x.sum(4), 100);
    }

    private static void damp(int sacks, int damp, int lost) {
        SurplusLand x = Lands.stored(sacks);
        x.terms(0, 0, 0, 0, 10000, 0, damp);
        x.go(0);
        check.due(sacks + " sacks, DAMP " + damp, x.receipt(0, 1), sacks - lost);
        check.due(sacks + " sacks, DAMP " + damp + ", lost", x.sum(6), lost);
    }

    private static void dampIsCut() {
        check.sentence("RECEIPTS lose sacks * DAMP / 1000 (cut).");
        damp(4, 200, 0);
        damp(5, 200, 1);
        damp(999, 1, 0);
        damp(1000, 1, 1);
        damp(1999, 1, 1);
        damp(500000, 200, 100000);
        damp(500000, 0, 0);
        SurplusLand x = Lands.quiet(9, 9);
        x.terms(0, 0, 0, 0, 10000, 0, 200);
        Check.law(x, "keep 100", 0, 0);
        x.go(1);
        check.due("each by itself, those of this YEAR too", x.count(4), 16);
        check.due("lost", x.sum(6), 2);
        x.go(0);
        check.due("of 8 each", x.count(4), 14);
        check.due("lost in both YEARS", x.sum(6), 4);
    }

    /** The price after a year with so many free sacks and so many wanted. */
    private static int price(int wanted, int free, int pull) {
        SurplusLand x = Lands.quiet(0);
        x.terms(wanted, 0, pull, 0, 10000, 0, 0);
        x.crop(0, free);
        x.go(0);
        return x.count(3);
    }

    private static void priceIsCutTowardsZero() {
        check.sentence("PRICE becomes PRICE and (WANTED less F less SOLD) * PULL / 1000 (cut towards 0)");
        check.due("999 more", price(999, 0, 1), 100);
        check.due("1000 more", price(1000, 0, 1), 101);
        check.due("1999 more", price(1999, 0, 1), 101);
        check.due("999 fewer", price(0, 999, 1), 100);
        check.due("1000 fewer", price(0, 1000, 1), 99);
        check.due("1999 fewer", price(0, 1999, 1), 99);
        check.due("just as many", price(50, 50, 1000), 100);
        check.due("PULL 0", price(10000000, 0, 0), 100);
        check.due("F is what was FREE ahead of the sale", price(60, 50, 1000), 110);
        SurplusLand x = Lands.stored(30);
        x.terms(20, 0, 1000, 0, 10000, 0, 0);
        Check.law(x, "sell 30", 1, 1);
        x.go(0);
        check.due("less SOLD", x.count(3), 90);
    }

    private static void priceIsCutToItsRange() {
        check.sentence("(cut towards 0), cut to 1 .. 10000.");
        check.due("2", price(0, 98, 1000), 2);
        check.due("1", price(0, 99, 1000), 1);
        check.due("0", price(0, 100, 1000), 1);
        check.due("-1", price(0, 101, 1000), 1);
        check.due("far below", price(0, 500000, 1000), 1);
        check.due("9999", price(9899, 0, 1000), 9999);
        check.due("10000", price(9900, 0, 1000), 10000);
        check.due("10001", price(9901, 0, 1000), 10000);
        check.due("far above", price(10000000, 0, 1000), 10000);
    }

    private static void vines(SurplusLand x, int bearing, int young0, int young1, int young2) {
        int[] due = {bearing, young0, young1, young2};
        for (int what = 1; what <= 4; what++) {
            check.due("YEAR " + x.count(0) + ", growerOf(0, " + what + ")", x.growerOf(0, what), due[what - 1]);
        }
    }

    private static void youngGrowOlder() {
        check.sentence("YOUNG acres of 2 YEARS are BEARING, those of 1 and 0 one older.");
        SurplusLand x = Lands.quiet(100);
        x.terms(0, 0, 0, 0, 100, 1, 0);
        x.go(0);
        vines(x, 100, 1, 0, 0);
        x.terms(0, 0, 0, 0, 100, 2, 0);
        x.go(0);
        vines(x, 100, 2, 1, 0);
        x.terms(0, 0, 0, 0, 100, 3, 0);
        x.go(0);
        vines(x, 100, 3, 2, 1);
        x.terms(0, 0, 0, 0, 100, 0, 0);
        x.go(0);
        vines(x, 101, 0, 3, 2);
        x.go(0);
        vines(x, 103, 0, 0, 3);
        x.go(0);
        vines(x, 106, 0, 0, 0);
        x.go(1);
        vines(x, 106, 0, 0, 0);
        check.due("BEARING ones bear", x.growerOf(0, 7), 106);
    }

    private static int planted(int acres, int plant, int high) {
        SurplusLand x = Lands.quiet(acres);
        x.terms(0, 0, 0, 0, high, plant, 0);
        x.go(0);
        return x.growerOf(0, 2);
    }

    private static void highOrMore() {
        check.sentence("If PRICE is HIGH or more");
        check.due("one below", planted(100, 10, 101), 0);
        check.due("just so high", planted(100, 10, 100), 10);
        check.due("one above", planted(100, 10, 99), 10);
        check.due("HIGH 1", planted(100, 10, 1), 10);
        check.due("HIGH 10000", planted(100, 10, 10000), 0);
        SurplusLand x = Lands.quiet(100);
        x.terms(1, 0, 1000, 0, 101, 10, 0);
        x.go(0);
        check.due("PRICE as it became", x.growerOf(0, 2), 10);
        SurplusLand y = Lands.quiet(100);
        y.terms(0, 0, 1000, 0, 100, 10, 0);
        y.crop(0, 1);
        y.go(0);
        check.due("PRICE as it became", y.growerOf(0, 2), 0);
        SurplusLand z = Lands.quiet(100);
        z.terms(0, 0, 0, 0, 100, 10, 0);
        z.go(0);
        z.terms(0, 0, 0, 0, 101, 10, 0);
        z.go(0);
        vines(z, 100, 0, 10, 0);
    }

    private static void moneyOfZeroOrMore() {
        check.sentence("who has MONEY of 0 or more sets BEARING * PLANT / 100 (cut) YOUNG ones");
        SurplusLand x = Lands.quiet(100, 50);
        x.terms(10, 0, 0, 0, 100, 10, 0);
        x.crop(0, 0);
        x.crop(1, 10);
        x.go(0);
        check.due("no MONEY", x.money(0), 0);
        check.due("sets some", x.growerOf(0, 2), 10);
        check.due("MONEY", x.money(1), 1000);
        check.due("sets some", x.growerOf(1, 2), 5);
    }

    private static void plantIsCut() {
        check.sentence("sets BEARING * PLANT / 100 (cut) YOUNG ones");
        check.due("9 * 11 / 100", planted(9, 11, 1), 0);
        check.due("10 * 10 / 100", planted(10, 10, 1), 1);
        check.due("1 * 99 / 100", planted(1, 99, 1), 0);
        check.due("1 * 100 / 100", planted(1, 100, 1), 1);
        check.due("1000 * 100 / 100", planted(1000, 100, 1), 1000);
        check.due("PLANT 0", planted(1000, 0, 1), 0);
        check.due("no acres", planted(0, 100, 1), 0);
        check.due("999 * 99 / 100", planted(999, 99, 1), 989);
    }

    private static void fiveThousandAcres() {
        check.sentence("but at most so many that BEARING and YOUNG ones are 5000.");
        SurplusLand x = Lands.quiet(1000);
        x.terms(0, 0, 0, 0, 1, 100, 0);
        x.go(0);
        x.go(0);
        x.go(0);
        vines(x, 1000, 1000, 1000, 1000);
        x.terms(0, 0, 0, 0, 1, 50, 0);
        x.go(0);
        vines(x, 2000, 1000, 1000, 1000);
        x.go(0);
        vines(x, 3000, 0, 1000, 1000);
        SurplusLand y = Lands.quiet(1000);
        y.terms(0, 0, 0, 0, 1, 100, 0);
        y.go(0);
        y.go(0);
        y.go(0);
        y.go(0);
        vines(y, 2000, 1000, 1000, 1000);
        for (int n = 0; n < 5; n++) {
            y.go(0);
        }
        vines(y, 5000, 0, 0, 0);
        y.go(100);
        check.due("the greatest CROP", y.growerOf(0, 7), 500000);
        SurplusLand z = Lands.quiet(1000);
        z.terms(0, 0, 0, 0, 1, 100, 0);
        z.go(0);
        z.go(0);
        z.terms(0, 0, 0, 0, 1, 99, 0);
        z.go(0);
        z.go(0);
        vines(z, 2000, 1010, 990, 1000);
    }

    private static void dueInThisYear() {
        check.sentence("Loans that are due in this YEAR or ahead (V), by RECEIPTS, RANK 1 first. Then the YEAR is one more.");
        for (int years = 1; years <= 9; years += 4) {
            SurplusLand x = Lands.stored(100);
            x.bank(0, 50, 0);
            x.pledge(0, 0, years);
            check.due("the YEAR in which it is due", x.receipt(0, 5), 1 + years);
            for (int y = 0; y < years; y++) {
                x.go(0);
            }
            check.due("not due", x.owed(0, 1), 5000);
            check.due("YEAR", x.go(0), 2 + years);
            check.due("paid back", x.owed(0, 1), 0);
            check.due("paid back", x.money(0), 0);
        }
    }

    private static void loansByReceipts() {
        check.sentence("by RECEIPTS, RANK 1 first.");
        SurplusLand x = Lands.stored(200);
        x.split(0, 100);
        x.bank(1, 10, 50);
        check.due("the later RECEIPT is pledged first", x.pledge(1, 1, 1), 1000);
        check.due("then the other", x.pledge(0, 1, 1), 1000);
        x.go(0);
        x.go(0);
        check.due("RECEIPT 0 is paid", x.receipt(0, 1), 100);
        check.due("RECEIPT 1 is not", x.receipt(1, 1), 85);
        check.due("it is the one", x.count(9), 1);
        SurplusLand y = Lands.stored(100);
        y.bank(0, 20, 50);
        y.bank(1, 20, 50);
        y.pledge(0, 0, 1);
        y.pledge(0, 1, 1);
        y.go(0);
        y.go(0);
        check.due("RANK 1 is paid with 3000 of 3000", y.money(12), 1000);
        check.due("RANK 2 is not", y.money(13), -1000);
        check.due("it takes 15", y.receipt(1, 1), 15);
    }

    private static void rightIsCut() {
        check.sentence("PART * (sacks less that CROP) / 100 (cut towards 0) more was to be KEPT: 100 times that is added to"
            + " the REST");
        int[] sacks = {100, 103, 104, 97, 96, 0, 500000};
        int[] more = {0, 0, 1, 0, -1, -30, 149970};
        for (int i = 0; i < sacks.length; i++) {
            SurplusLand x = Lands.quiet(0);
            Check.law(x, "keep 30", 0, 0);
            x.crop(0, 100);
            x.go(0);
            check.due("right to " + sacks[i], x.right(0, 0, sacks[i]), more[i]);
            check.due("REST of " + sacks[i], x.growerOf(0, 6), 100 * more[i]);
        }
        SurplusLand y = Lands.quiet(0);
        y.crop(0, 0);
        y.go(0);
        check.due("PART 0", y.right(0, 0, 500000), 0);
        SurplusLand z = Lands.stored(500000);
        check.due("PART 100", z.right(0, 0, 0), -500000);
        check.due("the REST", z.growerOf(0, 6), -50000000);
    }

    private static void rightFromNowOn() {
        check.sentence("the CROP of that YEAR is the new one from now on.");
        SurplusLand x = Lands.quiet(0);
        Check.law(x, "keep 50", 0, 1);
        x.crop(0, 100);
        x.go(0);
        check.due("one more", x.right(0, 0, 101), 0);
        check.due("one more again", x.right(0, 0, 102), 0);
        check.due("two more", x.right(0, 0, 104), 1);
        check.due("two more again", x.right(0, 0, 106), 1);
        check.due("both are added to the REST", x.growerOf(0, 6), 200);
        check.due("four fewer", x.right(0, 0, 102), -2);
        check.due("and taken from it", x.growerOf(0, 6), 0);
        check.due("the same", x.right(0, 0, 102), 0);
        check.due("the CROP", x.growerOf(0, 7), 102);
        check.due("KEPT is what it was", x.growerOf(0, 8), 50);
        check.due("the STORE too", x.count(4), 50);
        x.crop(0, 10);
        x.go(0);
        check.due("of the other YEAR", x.right(0, 0, 104), 1);
        check.due("that of the latest YEAR stays", x.growerOf(0, 7), 10);
        SurplusLand y = Lands.quiet(0);
        y.crop(0, 5);
        for (int n = 0; n < 30; n++) {
            y.go(0);
        }
        Check.law(y, "keep 50", 0, 0);
        check.due("the first of thirty", y.right(0, 0, 50), 0);
        check.due("the last of thirty", y.right(0, 29, 500000), 0);
        check.due("its CROP", y.growerOf(0, 7), 500000);
    }

    private static void rightOfTheFreed() {
        check.sentence("(Of one who was freed then: 0.)");
        SurplusLand x = Lands.quiet(0, 0, 0);
        x.crop(0, 49);
        x.crop(1, 50);
        x.crop(2, 50);
        Check.law(x, "keep 100;free 1;least 50", 0, 0);
        x.go(0);
        check.due("by a least", x.right(0, 0, 149), 0);
        check.due("by a VILLAGE", x.right(1, 0, 150), 0);
        check.due("not freed", x.right(2, 0, 150), 100);
        for (int n = 0; n < 3; n++) {
            check.due("REST of " + n, x.growerOf(n, 6), n == 2 ? 10000 : 0);
        }
        check.due("freed then, whatever the CROP is now", x.right(0, 0, 500000), 0);
        check.due("not freed then, whatever the CROP is now", x.right(2, 0, 1), -149);
    }
}
