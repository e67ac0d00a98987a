/** Promises 15, 16 and 19, and V: pledge, pay, owed, and what happens when a loan is due. */
public final class LoanTest {
    private static final Check check = new Check();

    public static void main(String[] args) {
        pledge();
        pay();
        owed();
        paidWhenDue();
        partTaken();
        leastNumberTaken();
        allTaken();
        secondTakesAll();
        bothDue();
        nothingLeftToTake();
        noNumberLeft();
        check.finish();
    }

    /** A grower with one receipt of 100 sacks of year 0, price 100, no market. */
    private static SurplusLand withReceipt() {
        SurplusLand x = new SurplusLand();
        x.terms(0, 0, 0, 0, 10000, 0, 0);
        x.grower(0, 10);
        Check.law(x, "keep 100", 0, 0);
        x.go(10);
        return x;
    }

    private static void pledge() {
        SurplusLand x = withReceipt();
        check.due("pledge(1, 0, 1)", x.pledge(1, 0, 1), -2);
        check.due("pledge(-1, 0, 1)", x.pledge(-1, 0, 1), -2);
        check.due("pledge(0, -1, 1)", x.pledge(0, -1, 1), -2);
        check.due("pledge(0, 3, 1)", x.pledge(0, 3, 1), -2);
        check.due("pledge(0, 0, 0)", x.pledge(0, 0, 0), -2);
        check.due("pledge(0, 0, 10)", x.pledge(0, 0, 10), -2);
        x.bank(0, 33, 7);
        x.bank(1, 99, 1);
        check.due("100 * 100 * 33 / 100", x.pledge(0, 0, 9), 3300);
        check.due("owed", x.owed(0, 1), 3531);
        check.due("due", x.receipt(0, 5), 10);
        check.due("money", x.money(0), 3300);
        check.due("the bank's", x.money(12), -3300);
        check.due("to the same", x.pledge(0, 0, 1), -7);
        check.due("wrong comes first", x.pledge(0, 0, 0), -2);
        check.due("half of 9900", x.pledge(0, 1, 1), 4950);
        check.due("owed", x.owed(0, 2), 4999);
        check.due("twice", x.pledge(0, 2, 1), -7);
        check.due("money", x.money(0), 8250);
        SurplusLand y = withReceipt();
        y.split(0, 1);
        y.bank(0, 0, 0);
        y.bank(1, 1, 99);
        check.due("nothing would be lent", y.pledge(1, 0, 1), -8);
        check.due("not pledged", y.receipt(1, 3), -1);
        check.due("1", y.pledge(1, 1, 1), 1);
        check.due("199 / 100", y.owed(1, 1), 1);
        y.bank(2, 1, 0);
        check.due("half of 1", y.pledge(1, 2, 1), -8);
        check.due("pledged to that one first", y.pledge(1, 1, 1), -7);
    }

    private static void pay() {
        SurplusLand x = withReceipt();
        check.due("no loan", x.pay(0, 1), -2);
        x.pledge(0, 2, 1);
        check.due("less money", x.pay(0, 1), -7);
        check.due("no second", x.pay(0, 2), -2);
        check.due("pay(0, 0)", x.pay(0, 0), -2);
        check.due("pay(0, 3)", x.pay(0, 3), -2);
        check.due("pay(1, 1)", x.pay(1, 1), -2);
        check.due("pay(-1, 1)", x.pay(-1, 1), -2);
        x.pledge(0, 0, 2);
        check.due("the first", x.pay(0, 1), 5500);
        check.due("money", x.money(0), 2000);
        check.due("the bank's", x.money(14), 500);
        check.due("the second becomes the first", x.receipt(0, 3), 0);
        check.due("its year", x.receipt(0, 5), 3);
        check.due("owed", x.owed(0, 1), 2750);
        check.due("no second", x.receipt(0, 4), -1);
        check.due("no second", x.receipt(0, 6), -1);
        check.due("no second", x.owed(0, 2), 0);
        check.due("less money", x.pay(0, 1), -7);
        check.due("again a second, half", x.pledge(0, 2, 1), 2500);
        check.due("enough now", x.pay(0, 2), 2750);
        check.due("the first stays", x.receipt(0, 3), 0);
        SurplusLand y = withReceipt();
        y.bank(0, 50, 0);
        y.pledge(0, 0, 1);
        check.due("just enough", y.pay(0, 1), 5000);
        check.due("money", y.money(0), 0);
        check.due("free again", y.split(0, 1), 1);
    }

    private static void owed() {
        SurplusLand x = withReceipt();
        check.due("nothing", x.owed(0, 1), 0);
        check.due("nothing", x.owed(0, 2), 0);
        x.pledge(0, 0, 1);
        x.bank(0, 10, 90);
        check.due("as it was lent", x.owed(0, 1), 5500);
        check.due("owed(0, 0)", x.owed(0, 0), 0);
        check.due("owed(0, 3)", x.owed(0, 3), 0);
        check.due("owed(1, 1)", x.owed(1, 1), 0);
        check.due("owed(-1, 1)", x.owed(-1, 1), 0);
    }

    private static void paidWhenDue() {
        SurplusLand x = withReceipt();
        x.bank(0, 50, 0);
        x.bank(1, 50, 0);
        x.pledge(0, 0, 2);
        x.pledge(0, 1, 1);
        x.go(0);
        check.due("none is due in year 1", x.owed(0, 2), 2500);
        x.go(0);
        check.due("the second is due in year 2", x.owed(0, 2), 0);
        check.due("and paid", x.money(13), 0);
        check.due("the first is not", x.owed(0, 1), 5000);
        x.go(0);
        check.due("the first is due in year 3", x.owed(0, 1), 0);
        check.due("and paid", x.money(12), 0);
        check.due("money", x.money(0), 0);
        check.due("none was not paid", x.count(9), 0);
        check.due("the receipt stays", x.receipt(0, 1), 100);
    }

    private static void partTaken() {
        SurplusLand x = withReceipt();
        x.bank(1, 49, 1);
        x.pledge(0, 1, 1);
        x.pledge(0, 2, 9);
        x.bank(0, 0, 0);
        x.split(0, 1);
        x.terms(0, 0, 1000, 0, 10000, 0, 0);
        x.go(0);
        check.due("4949 at 100 would be 50; not due", x.count(2), 1);
        x.terms(0, 0, 0, 0, 10000, 0, 0);
        x.crop(0, 3);
        x.go(0);
        check.due("paid, since there is money", x.owed(0, 1), 2750);
        check.due("the second is the first", x.receipt(0, 3), 2);
        SurplusLand y = withReceipt();
        y.bank(1, 49, 1);
        y.pledge(0, 1, 1);
        y.go(0);
        y.terms(0, 0, 1000, 0, 10000, 0, 0);
        y.crop(0, 3);
        y.go(0);
        check.due("at the price of 97: 4949 / 97 and one more", y.receipt(1, 1), 52);
        check.due("the bank holds it", y.receipt(1, 0), 13);
        check.due("the same year", y.receipt(1, 2), 0);
        check.due("the rest", y.receipt(0, 1), 48);
        check.due("the loan is gone", y.owed(0, 1), 0);
        check.due("not paid", y.count(9), 1);
        check.due("money stays", y.money(0), 4900);
        check.due("the bank's too", y.money(13), -4900);
    }

    private static void leastNumberTaken() {
        int[] rates = {1, 99, 100};
        for (int rate : rates) {
            SurplusLand x = withReceipt();
            x.bank(0, 1, rate);
            x.pledge(0, 0, 1);
            x.go(0);
            x.go(0);
            check.due("worth " + (100 + rate) + " at 100", x.receipt(1, 1), 2);
        }
    }

    private static void allTaken() {
        SurplusLand x = withReceipt();
        x.bank(0, 100, 1);
        x.pledge(0, 0, 1);
        x.go(0);
        x.go(0);
        check.due("101 would be needed", x.receipt(0, 0), 12);
        check.due("all", x.receipt(0, 1), 100);
        check.due("no new number", x.count(2), 1);
        check.due("no loan", x.receipt(0, 3), -1);
        check.due("not paid", x.count(9), 1);
        check.due("a bank can't pledge", x.pledge(0, 1, 1), -2);
        SurplusLand y = withReceipt();
        y.bank(0, 99, 1);
        y.pledge(0, 0, 1);
        y.go(0);
        y.go(0);
        check.due("9999 at 100 is just all", y.receipt(0, 0), 12);
        check.due("no new number", y.count(2), 1);
        SurplusLand z = withReceipt();
        z.bank(0, 98, 1);
        z.pledge(0, 0, 1);
        z.go(0);
        z.go(0);
        check.due("9898 at 100: 99", z.receipt(1, 1), 99);
        check.due("one stays", z.receipt(0, 1), 1);
        check.due("with its grower", z.receipt(0, 0), 0);
    }

    private static void secondTakesAll() {
        SurplusLand x = withReceipt();
        x.bank(0, 1, 100);
        x.bank(1, 100, 100);
        x.pledge(0, 0, 9);
        x.pledge(0, 1, 1);
        x.go(0);
        x.go(0);
        check.due("the second is not paid and takes all", x.receipt(0, 0), 13);
        check.due("all loans are gone", x.receipt(0, 3), -1);
        check.due("all loans are gone", x.receipt(0, 4), -1);
        check.due("one was not paid when due", x.count(9), 1);
        SurplusLand y = withReceipt();
        y.bank(0, 1, 100);
        y.bank(1, 40, 100);
        y.pledge(0, 0, 9);
        y.pledge(0, 1, 1);
        y.go(0);
        y.go(0);
        check.due("the second takes a part", y.receipt(1, 1), 40);
        check.due("the first stays", y.owed(0, 1), 200);
        check.due("its bank", y.receipt(0, 3), 0);
        check.due("no second", y.receipt(0, 4), -1);
    }

    private static void bothDue() {
        SurplusLand x = withReceipt();
        x.bank(0, 50, 100);
        x.bank(1, 50, 0);
        x.pledge(0, 0, 1);
        x.pledge(0, 1, 1);
        x.go(0);
        x.go(0);
        check.due("the first, 10000, takes all of 100 at 100", x.receipt(0, 0), 12);
        check.due("the second is gone with it", x.owed(0, 1), 0);
        check.due("one not paid", x.count(9), 1);
        check.due("its bank has nothing back", x.money(13), -2500);
        SurplusLand y = withReceipt();
        y.bank(0, 30, 100);
        y.bank(1, 60, 0);
        y.pledge(0, 0, 1);
        y.pledge(0, 1, 1);
        check.due("money", y.money(0), 6000);
        y.go(0);
        y.go(0);
        check.due("the first is paid", y.money(12), 3000);
        check.due("the second not", y.count(9), 1);
        check.due("it takes 30", y.receipt(1, 1), 30);
        check.due("for its bank", y.receipt(1, 0), 13);
        SurplusLand z = withReceipt();
        z.bank(0, 30, 100);
        z.bank(1, 10, 100);
        z.pledge(0, 0, 1);
        z.pledge(0, 1, 1);
        z.go(0);
        z.go(0);
        check.due("the first takes 60", z.receipt(1, 1), 60);
        check.due("the second is paid", z.money(13), 500);
        check.due("40 stay", z.receipt(0, 1), 40);
    }

    private static void nothingLeftToTake() {
        SurplusLand x = withReceipt();
        x.bank(0, 100, 100);
        x.pledge(0, 0, 1);
        x.terms(0, 0, 0, 0, 10000, 0, 0);
        Check.law(x, "still 0", 1, 1);
        x.go(0);
        check.due("a pledged one goes to the stills", x.receipt(0, 1), 0);
        check.due("its holder has a quarter", x.money(0), 12500);
        check.due("the loan stays", x.owed(0, 1), 20000);
        check.due("without sacks", x.pledge(0, 1, 1), -2);
        x.go(0);
        check.due("not paid", x.count(9), 1);
        check.due("the empty receipt goes", x.receipt(0, 0), 12);
        check.due("no new number", x.count(2), 1);
        check.due("the loan is gone", x.owed(0, 1), 0);
    }

    /** A grower who paid a loan off has too little for two others, and one number is left. */
    private static void noNumberLeft() {
        SurplusLand x = withReceipt();
        Check.law(x, "keep 100", 1, 1);
        x.crop(0, 1000);
        x.go(0);
        x.split(1, 100);
        x.split(1, 60);
        for (int n = 4; n < 399; n++) {
            x.split(1, 1);
        }
        x.bank(1, 10, 100);
        x.pledge(0, 1, 1);
        x.pledge(2, 1, 1);
        x.pledge(3, 1, 1);
        check.due("paid", x.pay(3, 1), 1200);
        check.due("money", x.money(0), 1400);
        x.go(0);
        check.due("one number is left", x.go(0), 4);
        check.due("none was paid", x.count(9), 2);
        check.due("the first takes the last number", x.receipt(399, 1), 20);
        check.due("for the bank", x.receipt(399, 0), 13);
        check.due("of the first receipt", x.receipt(0, 1), 80);
        check.due("its holder stays", x.receipt(0, 0), 0);
        check.due("the second receipt goes itself", x.receipt(2, 0), 13);
        check.due("with all its sacks", x.receipt(2, 1), 100);
        check.due("no loan", x.owed(2, 1), 0);
        check.due("400", x.count(2), 400);
    }
}
