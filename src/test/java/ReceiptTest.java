/** Promises 13, 14, 17 and 18: split, give, redeem, receipt. */
public final class ReceiptTest {
    private static final Check check = new Check();

    public static void main(String[] args) {
        split();
        splitWithoutNumbers();
        splitOfABank();
        give();
        redeem();
        receipt();
        check.finish();
    }

    /** Two growers, a receipt of 100 and one of 200 sacks of year 0, no market. */
    private static SurplusLand withReceipts() {
        SurplusLand x = new SurplusLand();
        x.terms(0, 0, 0, 0, 10000, 0, 0);
        x.grower(0, 10);
        x.grower(1, 20);
        Check.law(x, "keep 100", 0, 0);
        x.go(10);
        return x;
    }

    private static void split() {
        SurplusLand x = withReceipts();
        check.due("split(-1, 1)", x.split(-1, 1), -2);
        check.due("split(2, 1)", x.split(2, 1), -2);
        check.due("split(0, 0)", x.split(0, 0), -2);
        check.due("split(0, -1)", x.split(0, -1), -2);
        check.due("split(0, 100)", x.split(0, 100), -2);
        check.due("split(0, min)", x.split(0, Integer.MIN_VALUE), -2);
        check.due("split(0, 99)", x.split(0, 99), 2);
        check.due("the rest", x.receipt(0, 1), 1);
        check.due("the new one", x.receipt(2, 1), 99);
        check.due("its holder", x.receipt(2, 0), 0);
        check.due("its year", x.receipt(2, 2), 0);
        check.due("one sack can't be split", x.split(0, 1), -2);
        check.due("split(1, 1)", x.split(1, 1), 3);
        check.due("its holder", x.receipt(3, 0), 1);
        check.due("the store stays", x.count(4), 300);
        x.pledge(1, 0, 1);
        check.due("pledged", x.split(1, 1), -7);
        check.due("pledged, wrong", x.split(1, 199), -2);
        check.due("the next number", x.split(2, 98), 4);
    }

    private static void splitWithoutNumbers() {
        SurplusLand x = withReceipts();
        x.crop(1, 500);
        Check.law(x, "keep 100", 1, 1);
        x.go(0);
        x.pledge(0, 0, 1);
        for (int n = 3; n < 400; n++) {
            check.due("split " + n, x.split(2, 1), n);
        }
        check.due("400", x.split(2, 1), -3);
        check.due("400, wrong", x.split(2, 103), -2);
        check.due("400, pledged", x.split(0, 1), -3);
        check.due("nothing happened", x.receipt(2, 1), 103);
    }

    private static void splitOfABank() {
        SurplusLand x = withReceipts();
        x.bank(0, 100, 100);
        x.terms(0, 0, 1000, 0, 10000, 0, 0);
        x.pledge(0, 0, 1);
        x.crop(0, 1000);
        x.go(0);
        x.go(0);
        check.due("the bank holds it", x.receipt(0, 0), 12);
        check.due("a bank's is split too", x.split(0, 40), 2);
        check.due("the bank has both", x.receipt(2, 0), 12);
        check.due("a bank's is given", x.give(2, 1), 0);
        check.due("to a grower", x.receipt(2, 0), 1);
    }

    private static void give() {
        SurplusLand x = withReceipts();
        check.due("give(2, 0)", x.give(2, 0), -2);
        check.due("give(-1, 0)", x.give(-1, 0), -2);
        check.due("give(0, 2)", x.give(0, 2), -2);
        check.due("give(0, -1)", x.give(0, -1), -2);
        check.due("give(0, 12)", x.give(0, 12), -2);
        check.due("give(0, 1)", x.give(0, 1), 0);
        check.due("its holder", x.receipt(0, 0), 1);
        check.due("to itself", x.give(0, 1), 0);
        x.pledge(0, 2, 9);
        check.due("the holder has what is lent", x.money(1), 5000);
        check.due("pledged", x.give(0, 0), -7);
        check.due("pledged, wrong", x.give(0, 2), -2);
        Check.law(x, "sell 100", 1, 1);
        x.go(0);
        check.due("the holder has the price", x.money(1), 15000);
        check.due("no sacks", x.give(0, 0), -2);
    }

    private static void redeem() {
        SurplusLand x = withReceipts();
        check.due("redeem(-1)", x.redeem(-1), -2);
        check.due("redeem(2)", x.redeem(2), -2);
        check.due("not three years old", x.redeem(0), -9);
        x.go(0);
        check.due("not three years old", x.redeem(0), -9);
        x.pledge(0, 0, 1);
        check.due("pledged", x.redeem(0), -7);
        x.crop(0, 0);
        x.go(0);
        x.give(1, 0);
        check.due("three years old", x.redeem(1), 200);
        check.due("to its holder", x.growerOf(0, 5), 200);
        check.due("taken back", x.sum(7), 200);
        check.due("its sacks", x.receipt(1, 1), 0);
        check.due("the number stays", x.count(2), 2);
        check.due("no sacks", x.redeem(1), -2);
        x.go(0);
        check.due("a bank took all it needs", x.receipt(2, 0), 12);
        check.due("a bank holds it", x.redeem(2), -2);
        check.due("what is left is free again", x.redeem(0), 45);
        check.due("taken back", x.sum(7), 245);
        redeemOfALaterYear();
    }

    private static void redeemOfALaterYear() {
        SurplusLand x = withReceipts();
        Check.law(x, "keep 100", 1, 1);
        x.go(1);
        x.go(0);
        x.go(0);
        check.due("year 0 in year 4", x.redeem(0), 100);
        check.due("year 1 in year 4", x.redeem(2), 10);
        SurplusLand y = withReceipts();
        Check.law(y, "keep 100", 1, 1);
        y.go(1);
        y.go(0);
        check.due("year 0 in year 3", y.redeem(0), 100);
        check.due("year 1 in year 3", y.redeem(2), -9);
    }

    private static void receipt() {
        SurplusLand x = withReceipts();
        Check.law(x, "keep 50", 1, 1);
        x.crop(0, 0);
        x.crop(1, 7);
        x.go(0);
        check.due("holder", x.receipt(2, 0), 1);
        check.due("sacks", x.receipt(2, 1), 3);
        check.due("year", x.receipt(2, 2), 1);
        for (int what = 3; what < 7; what++) {
            check.due("not pledged " + what, x.receipt(2, what), -1);
        }
        check.due("receipt(2, -1)", x.receipt(2, -1), -2);
        check.due("receipt(2, 7)", x.receipt(2, 7), -2);
        check.due("receipt(3, 0)", x.receipt(3, 0), -2);
        check.due("receipt(-1, 0)", x.receipt(-1, 0), -2);
        x.pledge(0, 2, 5);
        x.pledge(0, 1, 3);
        check.due("first bank", x.receipt(0, 3), 2);
        check.due("second bank", x.receipt(0, 4), 1);
        check.due("first due", x.receipt(0, 5), 7);
        check.due("second due", x.receipt(0, 6), 5);
    }
}
