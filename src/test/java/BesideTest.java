/** Promise 25: the same years under another law. */
public final class BesideTest {
    private static final Check check = new Check();

    public static void main(String[] args) {
        refused();
        aheadOfAnyYear();
        sameLaw();
        termsOfNow();
        toldAsThen();
        noBanksNoMore();
        allThirtyYears();
        check.finish();
    }

    private static void refused() {
        SurplusLand x = new SurplusLand();
        x.go(0);
        Check.type(x, "keep 5");
        check.due("beside(-1)", x.beside(-1), -2);
        check.due("beside(5)", x.beside(5), -2);
        check.due("the tape stays", x.count(8), 6);
        check.due("beside(0)", x.beside(0), 190);
        check.due("the tape is empty", x.count(8), 0);
        check.due("an empty tape", x.beside(0), -4);
        check.due("its fault", x.fault(), 0);
        check.due("a fault", Check.beside(x, "keep 5 if", 3), -4);
        check.due("its place", x.fault(), 9);
        check.due("the tape is empty", x.count(8), 0);
    }

    private static void aheadOfAnyYear() {
        SurplusLand x = new SurplusLand();
        x.grower(0, 30);
        x.grower(1, 12);
        x.crop(0, 77);
        long[] due = {100, 0, 0, 42, 0};
        for (int what = 0; what < 5; what++) {
            check.due("no year has gone " + what, Check.beside(x, "keep 50", what), due[what]);
        }
    }

    private static void sameLaw() {
        SurplusLand x = new SurplusLand();
        String text = "keep 30 if price<110;sell store/3 if price>100;free 2;least 50;still 4";
        x.terms(1200, 90, 150, 70, 105, 12, 20);
        for (int n = 0; n < 6; n++) {
            x.grower(n, 5 + 7 * n);
        }
        Check.law(x, text, 0, 29);
        for (int y = 0; y < 12; y++) {
            if (y % 4 == 1) {
                x.crop(y % 6, 500);
            }
            x.go(4 + y % 5);
            check.due("price, year " + y, Check.beside(x, text, 0), x.count(3));
            check.due("store, year " + y, Check.beside(x, text, 1), x.count(4));
            check.due("money, year " + y, Check.beside(x, text, 2), x.gains(0, 5000));
            check.due("free, year " + y, Check.beside(x, text, 4), x.count(5));
        }
        long acres = 0;
        for (int n = 0; n < 6; n++) {
            acres += x.growerOf(n, 1);
        }
        check.due("acres", Check.beside(x, text, 3), acres);
        check.due("acres have grown", acres > 135, true);
        check.due("the store has some", x.count(4) > 0, true);
        int price = x.count(3);
        Check.beside(x, "keep 100", 1);
        check.due("nothing changes in this land", x.count(3), price);
        check.due("nor its receipts", x.receipt(0, 2), 0);
    }

    private static void termsOfNow() {
        SurplusLand x = new SurplusLand();
        x.grower(0, 10);
        x.go(10);
        x.terms(0, 0, 0, 0, 10000, 0, 0);
        check.due("nothing is wanted by these terms", Check.beside(x, "keep 0", 4), 100);
        check.due("nor paid", Check.beside(x, "keep 0", 2), 0);
        check.due("the price stays", Check.beside(x, "keep 0", 0), 100);
        check.due("half is locked up", Check.beside(x, "keep 50", 1), 50);
        x.terms(40, 0, 0, 10, 10000, 0, 200);
        check.due("damp of these terms", Check.beside(x, "keep 50", 1), 40);
        check.due("40 and 10", Check.beside(x, "keep 50", 2), 40 * 100 + 10 * 25);
    }

    private static void toldAsThen() {
        SurplusLand x = new SurplusLand();
        x.terms(0, 0, 0, 0, 10000, 0, 0);
        x.grower(0, 10);
        x.grower(3, 20);
        x.crop(0, 7);
        x.go(1);
        x.crop(1, 0);
        x.go(2);
        x.crop(0, 5000);
        check.due("told, else acres times yield", Check.beside(x, "keep 0", 4), 7 + 20 + 20);
        x.right(0, 0, 100);
        x.right(1, 0, 100);
        check.due("as they were then", Check.beside(x, "keep 0", 4), 47);
        check.due("villages", Check.beside(x, "keep 100;free 3", 1), 27);
        check.due("of all years", Check.beside(x, "keep 100 if year=1", 1), 20);
        check.due("the store there", Check.beside(x, "keep 100;sell store", 1), 20);
        check.due("money there", Check.beside(x, "keep 100;sell store", 2), 2700);
    }

    private static void noBanksNoMore() {
        SurplusLand x = new SurplusLand();
        x.terms(0, 0, 0, 0, 10000, 0, 0);
        x.grower(0, 10);
        x.grower(0, 10);
        Check.law(x, "keep 100", 0, 5);
        x.go(1);
        x.bank(0, 100, 100);
        x.pledge(0, 0, 1);
        x.split(1, 3);
        x.give(1, 0);
        for (int y = 1; y < 4; y++) {
            x.go(1);
        }
        x.redeem(2);
        check.due("not paid here", x.count(9), 1);
        check.due("no money there", Check.beside(x, "keep 100", 2), 0);
        check.due("all in the store there", Check.beside(x, "keep 100", 1), 80);
        check.due("nothing free there", Check.beside(x, "keep 100", 4), 0);
        check.due("again the same", Check.beside(x, "keep 50", 1), 40);
        check.due("stills", Check.beside(x, "keep 100;still 0", 2), 1500);
    }

    private static void allThirtyYears() {
        SurplusLand x = new SurplusLand();
        x.terms(0, 0, 0, 0, 1, 100, 0);
        for (int n = 0; n < 12; n++) {
            x.grower(n % 8, 1000);
        }
        for (int y = 0; y < 30; y++) {
            x.go(100);
        }
        check.due("acres", Check.beside(x, "keep 100", 3), 60000);
        check.due("360 receipts, twice", Check.beside(x, "keep 100", 1), x.sum(0));
        check.due("all free", Check.beside(x, "keep 0", 4), x.sum(0));
        check.due("no receipts here", x.count(2), 0);
    }
}
