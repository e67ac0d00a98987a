/** Promises 9 to 12, and the steps of IV: crop, crops, go, right. */
public final class YearTest {
    private static final Check check = new Check();

    public static void main(String[] args) {
        crop();
        crops();
        goRefused();
        noNumbersLeft();
        keptAndRest();
        soldFromTheStore();
        stilledFromTheStore();
        soldForABank();
        soldFree();
        oneMoreOfTheFirst();
        stilledFree();
        damp();
        price();
        vines();
        mostAcres();
        right();
        rightOfTheFreed();
        check.finish();
    }

    /** A land without a market: what is kept and free stays. */
    private static SurplusLand quiet(int... acres) {
        SurplusLand x = new SurplusLand();
        x.terms(0, 0, 0, 0, 10000, 0, 0);
        for (int a : acres) {
            x.grower(x.count(1) % 8, a);
        }
        return x;
    }

    private static void crop() {
        SurplusLand x = quiet(10, 20);
        check.due("crop(-1, 1)", x.crop(-1, 1), -2);
        check.due("crop(2, 1)", x.crop(2, 1), -2);
        check.due("crop(0, -1)", x.crop(0, -1), -2);
        check.due("crop(0, 500001)", x.crop(0, 500001), -2);
        check.due("crop(0, 500000)", x.crop(0, 500000), 0);
        check.due("crop(1, 3)", x.crop(1, 3), 0);
        check.due("told again", x.crop(1, 0), 0);
        x.go(100);
        check.due("told", x.growerOf(0, 7), 500000);
        check.due("told again", x.growerOf(1, 7), 0);
        x.go(3);
        check.due("acres times yield", x.growerOf(0, 7), 30);
        check.due("acres times yield", x.growerOf(1, 7), 60);
        check.due("all free", x.growerOf(0, 5), 500030);
    }

    private static void crops() {
        SurplusLand x = quiet(10, 20);
        check.due("crops(-1)", x.crops(-1), -2);
        check.due("crops(4)", x.crops(4), -2);
        check.due("crops(0)", x.crops(0), -5);
        x.row(0, 2, 1);
        check.due("fewer", x.crops(0), -6);
        x.row(0, 2, 3);
        x.write(0, 0, 7);
        x.write(0, 1, -1);
        check.due("below 0", x.crops(0), -4);
        x.write(0, 1, 500001);
        check.due("above", x.crops(0), -4);
        x.write(0, 1, 500000);
        x.write(0, 2, -5);
        check.due("one beyond the growers is no crop", x.crops(0), 2);
        x.write(0, 0, 600000);
        check.due("the first is wrong", x.crops(0), -4);
        x.go(1);
        check.due("nothing happened then", x.growerOf(0, 7), 7);
        check.due("the second", x.growerOf(1, 7), 500000);
        x.row(1, 0, 2);
        x.write(1, 0, 127);
        x.write(1, 1, 128);
        check.due("128 is below 0 in a byte", x.crops(1), -4);
        SurplusLand none = new SurplusLand();
        none.row(3, 3, 0);
        check.due("no growers, an empty row", none.crops(3), 0);
    }

    private static void goRefused() {
        SurplusLand x = quiet(1);
        check.due("go(-1)", x.go(-1), -2);
        check.due("go(101)", x.go(101), -2);
        check.due("no year went", x.count(0), 0);
        for (int y = 1; y <= 30; y++) {
            check.due("go " + y, x.go(y % 2 == 0 ? 0 : 100), y);
        }
        check.due("the 31st", x.go(0), -9);
        check.due("the 31st, wrong", x.go(101), -2);
        check.due("years", x.count(0), 30);
        check.due("a crop of no year", x.crop(0, 5), 0);
        check.due("sacks", x.sum(0), 1500);
        x.right(0, 29, 8);
        check.due("the crop of year 29", x.growerOf(0, 7), 8);
    }

    private static void noNumbersLeft() {
        SurplusLand x = quiet(1000, 1000);
        Check.law(x, "keep 100", 0, 0);
        x.go(1);
        for (int n = 2; n < 399; n++) {
            check.due("split " + n, x.split(0, 1), n);
        }
        check.due("one is left for two", x.go(0), -3);
        check.due("wrong yield first", x.go(-1), -2);
        check.due("no year went", x.count(0), 1);
        SurplusLand y = quiet(1000, 1000);
        Check.law(y, "keep 100", 0, 1);
        y.go(1);
        for (int n = 2; n < 398; n++) {
            y.split(0, 1);
        }
        check.due("two are left for two", y.go(1), 2);
        check.due("400", y.count(2), 400);
        check.due("none is left", y.go(0), -3);
        check.due("no number for a split", y.split(0, 1), -3);
    }

    private static void keptAndRest() {
        SurplusLand x = quiet(10, 10);
        Check.law(x, "keep 25;free 1", 0, 2);
        x.crop(0, 33);
        x.crop(1, 33);
        x.go(0);
        check.due("825 / 100", x.growerOf(0, 8), 8);
        check.due("rest", x.growerOf(0, 6), 25);
        check.due("freed", x.growerOf(1, 8), 0);
        check.due("no rest", x.growerOf(1, 6), 0);
        check.due("from free", x.growerOf(0, 5), 25);
        check.due("free of the freed", x.growerOf(1, 5), 33);
        check.due("a receipt", x.receipt(0, 1), 8);
        check.due("one alone", x.count(2), 1);
        x.crop(0, 3);
        x.go(0);
        check.due("75 and 25", x.growerOf(0, 8), 1);
        check.due("no rest", x.growerOf(0, 6), 0);
        x.crop(0, 3);
        x.go(0);
        check.due("75", x.growerOf(0, 8), 0);
        check.due("nothing kept, no receipt", x.count(2), 2);
        check.due("rest", x.growerOf(0, 6), 75);
        x.right(0, 0, 4033);
        check.due("rest of 1000 more", x.growerOf(0, 6), 100075);
        x.crop(0, 40);
        x.go(0);
        check.due("the crop at most, without a law too", x.growerOf(0, 8), 40);
        check.due("what stays of the rest", x.growerOf(0, 6), 96075);
        x.right(0, 0, 33);
        x.right(0, 1, 3);
        check.due("rest as it was, less what was kept", x.growerOf(0, 6), -3925);
        x.crop(0, 40);
        Check.law(x, "keep 50", 4, 6);
        x.go(0);
        check.due("0 at least", x.growerOf(0, 8), 0);
        check.due("2000 less", x.growerOf(0, 6), -1925);
    }

    private static void soldFromTheStore() {
        SurplusLand x = quiet(10, 20);
        Check.law(x, "keep 100;sell 25", 0, 1);
        x.go(1);
        check.due("nothing was in the store", x.sum(3), 0);
        x.go(1);
        check.due("of the old receipts alone", x.sum(3), 25);
        check.due("the first", x.receipt(0, 1), 0);
        check.due("the second", x.receipt(1, 1), 5);
        check.due("the new", x.receipt(2, 1), 10);
        check.due("price for each", x.money(0), 1000);
        check.due("price for each", x.money(1), 1500);
        Check.law(x, "sell 1000", 2, 2);
        x.go(0);
        check.due("the store at most", x.sum(3), 60);
        check.due("the store", x.count(4), 0);
    }

    private static void stilledFromTheStore() {
        SurplusLand x = quiet(10);
        x.terms(0, 0, 0, 0, 10000, 0, 0);
        Check.law(x, "keep 100;still 1", 0, 29);
        x.go(1);
        x.go(1);
        check.due("a year back is not more than one", x.sum(5), 0);
        x.go(1);
        check.due("two years back", x.sum(5), 10);
        check.due("a quarter of the price", x.money(0), 250);
        check.due("its sacks", x.receipt(0, 1), 0);
        check.due("the others", x.count(4), 20);
        SurplusLand y = quiet(10);
        Check.law(y, "keep 100;still 0", 0, 29);
        y.go(1);
        check.due("this year's stay", y.count(4), 10);
        y.terms(0, 0, 0, 0, 10000, 0, 0);
        y.go(1);
        check.due("the last year's go", y.sum(5), 10);
    }

    /** Each bank takes a receipt of its own; then a part is sold and the rest goes to the stills. */
    private static void soldForABank() {
        for (int b = 0; b < 3; b++) {
            SurplusLand x = quiet(10);
            Check.law(x, "keep 100", 0, 0);
            Check.law(x, "sell 4", 3, 3);
            Check.law(x, "still 1", 4, 4);
            x.go(1);
            x.bank(b, 100, 100);
            x.pledge(0, b, 1);
            x.go(0);
            x.go(0);
            check.due("the bank holds it", x.receipt(0, 0), 12 + b);
            x.go(0);
            check.due("the bank has the price", x.money(12 + b), -1000 + 400);
            x.go(0);
            check.due("and a quarter of it", x.money(12 + b), -1000 + 400 + 150);
            check.due("the grower has what was lent", x.money(0), 1000);
        }
    }

    private static void oneMoreOfTheFirst() {
        SurplusLand x = new SurplusLand();
        x.terms(8, 0, 0, 0, 10000, 0, 0);
        x.grower(0, 0);
        x.grower(0, 1);
        x.grower(0, 5);
        x.grower(0, 5);
        x.go(1);
        check.due("one without any gives none", x.money(0), 0);
        check.due("0 and one more", x.money(1), 100);
        check.due("3 and one more", x.money(2), 400);
        check.due("3", x.money(3), 300);
        SurplusLand y = new SurplusLand();
        y.grower(0, 1);
        y.go(1);
        check.due("a single one", y.money(0), 100);
        check.due("is sold abroad", y.sum(2), 1);
    }

    private static void soldFree() {
        SurplusLand x = new SurplusLand();
        x.terms(10, 0, 0, 0, 10000, 0, 0);
        for (int n = 0; n < 4; n++) {
            x.grower(0, n == 1 ? 0 : 5);
        }
        x.go(1);
        check.due("3 each, then one more of the first", x.growerOf(0, 5), 1);
        check.due("who has none", x.growerOf(1, 5), 0);
        check.due("3", x.growerOf(2, 5), 2);
        check.due("3", x.growerOf(3, 5), 2);
        check.due("price for each", x.money(0), 400);
        check.due("E", x.sum(2), 10);
        Check.law(x, "keep 100", 1, 1);
        x.go(1);
        check.due("what was free is sold", x.count(5), 0);
        Check.law(x, "sell 7", 2, 2);
        x.crop(0, 100);
        x.go(0);
        check.due("wanted less sold", x.sum(2), 10 + 5 + 3);
        Check.law(x, "sell 99;keep 0", 3, 3);
        Check.law(x, "keep 100", 4, 4);
        x.go(0);
        check.due("wanted less 8 sold", x.sum(2), 10 + 5 + 3 + 2);
        check.due("sold", x.sum(3), 15);
    }

    private static void stilledFree() {
        SurplusLand x = new SurplusLand();
        x.terms(0, 0, 0, 12, 10000, 0, 0);
        x.grower(0, 10);
        x.grower(0, 10);
        x.go(1);
        check.due("by numbers", x.growerOf(0, 5), 0);
        check.due("up to the quota", x.growerOf(1, 5), 8);
        check.due("a quarter", x.money(0), 250);
        check.due("a quarter", x.money(1), 50);
        check.due("to the stills", x.sum(4), 12);
        x.terms(0, 0, 0, 0, 10000, 0, 0);
        x.go(0);
        check.due("what is left stays", x.count(5), 8);
    }

    private static void damp() {
        SurplusLand x = new SurplusLand();
        x.terms(0, 0, 0, 0, 10000, 0, 150);
        x.grower(0, 19);
        Check.law(x, "keep 100", 0, 0);
        x.go(1);
        check.due("19 * 150 / 1000", x.count(4), 17);
        check.due("lost", x.sum(6), 2);
        x.go(0);
        check.due("17 * 150 / 1000", x.count(4), 15);
        check.due("lost", x.sum(6), 4);
    }

    private static void price() {
        SurplusLand x = new SurplusLand();
        x.terms(100, 0, 7, 0, 10000, 0, 0);
        x.grower(0, 100);
        x.crop(0, 300);
        x.go(0);
        check.due("(100 - 300) * 7 / 1000 is cut towards 0", x.count(3), 99);
        x.crop(0, 1000);
        x.go(0);
        check.due("all free ones, those of before too", x.count(3), 92);
        x.terms(0, 0, 1000, 0, 10000, 0, 0);
        x.go(0);
        check.due("1 at least", x.count(3), 1);
        x.terms(10000000, 0, 1000, 0, 10000, 0, 0);
        x.go(0);
        check.due("10000 at most", x.count(3), 10000);
        SurplusLand y = quiet(1000);
        Check.law(y, "keep 100", 0, 0);
        Check.law(y, "sell 30", 1, 1);
        y.go(1);
        y.terms(0, 0, 1000, 0, 10000, 0, 0);
        y.crop(0, 20);
        y.go(0);
        check.due("less F less SOLD", y.count(3), 50);
    }

    private static void vines() {
        SurplusLand x = new SurplusLand();
        x.terms(0, 0, 0, 0, 100, 15, 0);
        x.grower(0, 50);
        x.go(0);
        check.due("price is high: 50 * 15 / 100", x.growerOf(0, 2), 7);
        x.go(0);
        check.due("one older", x.growerOf(0, 3), 7);
        check.due("new ones", x.growerOf(0, 2), 7);
        x.terms(0, 0, 0, 0, 101, 15, 0);
        x.go(0);
        check.due("price is not high", x.growerOf(0, 2), 0);
        check.due("two years", x.growerOf(0, 4), 7);
        check.due("not yet bearing", x.growerOf(0, 1), 50);
        x.terms(0, 0, 0, 0, 100, 100, 0);
        x.go(0);
        check.due("bearing", x.growerOf(0, 1), 57);
        check.due("of the new bearing ones", x.growerOf(0, 2), 57);
        check.due("the second ones", x.growerOf(0, 4), 7);
    }

    private static void mostAcres() {
        SurplusLand x = new SurplusLand();
        x.terms(0, 0, 0, 0, 1, 100, 0);
        x.grower(0, 1000);
        for (int y = 0; y < 5; y++) {
            x.go(0);
        }
        check.due("young ones up to 5000", x.growerOf(0, 2), 0);
        check.due("bearing", x.growerOf(0, 1), 3000);
        check.due("all", x.growerOf(0, 1) + x.growerOf(0, 3) + x.growerOf(0, 4), 5000);
        for (int y = 5; y < 9; y++) {
            x.go(0);
        }
        check.due("no more", x.growerOf(0, 1), 5000);
        x.go(100);
        check.due("the greatest crop", x.growerOf(0, 7), 500000);
    }

    private static void right() {
        SurplusLand x = quiet(10, 10);
        check.due("no year has gone", x.right(0, 0, 5), -1000000);
        Check.law(x, "keep 30", 0, 0);
        x.go(10);
        check.due("right(2, 0, 5)", x.right(2, 0, 5), -1000000);
        check.due("right(-1, 0, 5)", x.right(-1, 0, 5), -1000000);
        check.due("right(0, 1, 5)", x.right(0, 1, 5), -1000000);
        check.due("right(0, -1, 5)", x.right(0, -1, 5), -1000000);
        check.due("right(0, 0, -1)", x.right(0, 0, -1), -1000000);
        check.due("right(0, 0, 500001)", x.right(0, 0, 500001), -1000000);
        check.due("more", x.right(0, 0, 111), 3);
        check.due("rest", x.growerOf(0, 6), 300);
        check.due("the crop is the new one", x.growerOf(0, 7), 111);
        check.due("kept stays", x.growerOf(0, 8), 30);
        check.due("from the new one on", x.right(0, 0, 111), 0);
        check.due("fewer, cut towards 0", x.right(0, 0, 101), -3);
        check.due("rest", x.growerOf(0, 6), 0);
        check.due("fewer", x.right(0, 0, 0), -30);
        check.due("rest below 0", x.growerOf(0, 6), -3000);
        check.due("the most", x.right(1, 0, 500000), 149970);
        check.due("no sacks came", x.count(5), 140);
        check.due("nor went", x.sum(0), 200);
        x.go(10);
        check.due("by the part of that year", x.right(1, 1, 500000), 0);
    }

    private static void rightOfTheFreed() {
        SurplusLand x = quiet(10, 10);
        Check.law(x, "keep 30;free 1", 0, 0);
        x.go(10);
        check.due("freed then", x.right(1, 0, 1000), 0);
        check.due("no rest", x.growerOf(1, 6), 0);
        check.due("the crop is the new one", x.growerOf(1, 7), 1000);
        check.due("not freed", x.right(0, 0, 1000), 270);
    }
}
