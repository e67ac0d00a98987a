/** The edges that Terms V names, sentence by sentence. */
public final class LoanEdgesTest {
    private static final Check check = new Check();

    public static void main(String[] args) {
        oneOrTwoBanks();
        lentIsCut();
        halfIsCut();
        owedIsCut();
        dueSoManyYearsFromNow();
        paidBack();
        secondAloneBecomesFirst();
        soMuchMoney();
        nextNumber();
        noNextNumber();
        bankWouldHaveAll();
        leastNumberOfSacks();
        atThePriceThen();
        atMostAll();
        theLoanIsGone();
        allLoansAreGone();
        check.finish();
    }

    private static void oneOrTwoBanks() {
        check.sentence("A RECEIPT is PLEDGED to one or two BANKS: RANK 1, then RANK 2.");
        for (int first = 0; first < 3; first++) {
            for (int second = 0; second < 3; second++) {
                SurplusLand x = Lands.stored(100);
                check.due("the first", x.pledge(0, first, 1), 5000);
                check.due("the second", x.pledge(0, second, 1), first == second ? -7 : 2500);
                check.due("RANK 1", x.receipt(0, 3), first);
                check.due("RANK 2", x.receipt(0, 4), first == second ? -1 : second);
                if (first != second) {
                    check.due("a third", x.pledge(0, 3 - first - second, 1), -7);
                }
            }
        }
    }

    /** What a bank lends on so many sacks at a price, as rank 1. */
    private static long lent(int sacks, int price, int part) {
        SurplusLand x = Lands.stored(sacks);
        Lands.price(x, price);
        x.bank(0, part, 0);
        long lent = x.pledge(0, 0, 1);
        check.due("the HOLDER has it more", x.money(0), Math.max(0, lent));
        check.due("the BANK less", x.money(12), -Math.max(0, lent));
        return lent;
    }

    private static void lentIsCut() {
        check.sentence("LENT is sacks * PRICE * PART / 100 (cut; of the BANK)");
        check.due("99 / 100", lent(1, 99, 1), -8);
        check.due("100 / 100", lent(1, 100, 1), 1);
        check.due("199 / 100", lent(1, 199, 1), 1);
        check.due("4950 / 100", lent(1, 99, 50), 49);
        check.due("all of it", lent(1, 1, 100), 1);
        check.due("cut once, behind all", lent(3, 99, 50), 148);
        check.due("the most", lent(500000, 10000, 100), 5000000000L);
    }

    private static long second(int sacks, int price, int part) {
        SurplusLand x = Lands.stored(sacks);
        Lands.price(x, price);
        x.bank(0, 100, 0);
        x.bank(1, part, 0);
        x.pledge(0, 0, 1);
        return x.pledge(0, 1, 1);
    }

    private static void halfIsCut() {
        check.sentence("of RANK 2 half of that (cut)");
        check.due("half of 1", second(1, 100, 1), -8);
        check.due("half of 2", second(2, 100, 1), 1);
        check.due("half of 3", second(3, 100, 1), 1);
        check.due("half of 49 of 49.5", second(1, 99, 50), 24);
        check.due("half of 1 of 1.98", second(1, 99, 2), -8);
        check.due("the most", second(500000, 10000, 100), 2500000000L);
    }

    private static long owed(int sacks, int part, int rate) {
        SurplusLand x = Lands.stored(sacks);
        x.bank(2, part, rate);
        x.pledge(0, 2, 1);
        return x.owed(0, 1);
    }

    private static void owedIsCut() {
        check.sentence("OWED: LENT * (100 + RATE) / 100 (cut)");
        check.due("1 at 0", owed(1, 1, 0), 1);
        check.due("1 at 99", owed(1, 1, 99), 1);
        check.due("1 at 100", owed(1, 1, 100), 2);
        check.due("99 at 1", owed(1, 99, 1), 99);
        check.due("100 at 1", owed(1, 100, 1), 101);
        check.due("53 at 7", owed(1, 53, 7), 56);
        SurplusLand x = Lands.stored(500000);
        Lands.price(x, 10000);
        x.bank(0, 100, 100);
        x.pledge(0, 0, 9);
        check.due("the most", x.owed(0, 1), 10000000000L);
    }

    private static void dueSoManyYearsFromNow() {
        check.sentence("due: so many YEARS from now.");
        SurplusLand x = Lands.stored(100);
        x.pledge(0, 0, 9);
        check.due("nine", x.receipt(0, 5), 10);
        x.go(0);
        x.pledge(0, 1, 1);
        check.due("one", x.receipt(0, 6), 3);
        check.due("the first is as before", x.receipt(0, 5), 10);
        SurplusLand y = Lands.stored(100);
        for (int n = 1; n < 30; n++) {
            y.go(0);
        }
        check.due("in YEAR 30", y.pledge(0, 0, 9), 5000);
        check.due("beyond all YEARS", y.receipt(0, 5), 39);
    }

    private static void paidBack() {
        check.sentence("Paid back: the HOLDER has that less, the BANK more");
        SurplusLand x = Lands.stored(100);
        x.bank(0, 50, 0);
        x.bank(1, 50, 20);
        x.pledge(0, 0, 5);
        x.pledge(0, 1, 5);
        check.due("RANK 2", x.pay(0, 2), 3000);
        check.due("the HOLDER", x.money(0), 4500);
        check.due("the BANK", x.money(13), 500);
        check.due("the other BANK", x.money(12), -5000);
        check.due("RANK 1 stays", x.owed(0, 1), 5000);
    }

    private static void secondAloneBecomesFirst() {
        check.sentence("RANK 2 alone becomes RANK 1.");
        SurplusLand x = Lands.stored(100);
        x.bank(0, 10, 0);
        x.pledge(0, 0, 2);
        x.pledge(0, 2, 4);
        check.due("RANK 1 is paid", x.pay(0, 1), 1000);
        check.due("its BANK", x.receipt(0, 3), 2);
        check.due("its YEAR", x.receipt(0, 5), 5);
        check.due("OWED", x.owed(0, 1), 2750);
        check.due("no RANK 2", x.receipt(0, 4), -1);
        check.due("no RANK 2", x.receipt(0, 6), -1);
        check.due("no RANK 2", x.owed(0, 2), 0);
        check.due("a new RANK 2 gets half", x.pledge(0, 0, 1), 500);
        check.due("not twice to one", x.pledge(0, 2, 1), -7);
    }

    /** A loan of 100 on 100 sacks at a rate, due a year on. */
    private static SurplusLand whenDue(int rate) {
        SurplusLand x = Lands.stored(100);
        x.bank(0, 1, rate);
        x.pledge(0, 0, 1);
        x.go(0);
        x.go(0);
        return x;
    }

    private static void soMuchMoney() {
        check.sentence("A loan that is due is paid back if the HOLDER has so much MONEY.");
        SurplusLand just = whenDue(0);
        check.due("100 of 100: paid", just.count(9), 0);
        check.due("MONEY", just.money(0), 0);
        check.due("the BANK's", just.money(12), 0);
        check.due("RECEIPTS", just.count(2), 1);
        SurplusLand less = whenDue(1);
        check.due("100 of 101: not paid", less.count(9), 1);
        check.due("MONEY stays", less.money(0), 100);
        check.due("the BANK's stays", less.money(12), -100);
        check.due("RECEIPTS", less.count(2), 2);
    }

    private static void nextNumber() {
        check.sentence("Else it is not paid: a RECEIPT of the same YEAR comes to the BANK (the next number");
        SurplusLand x = Lands.stored(100, 40);
        x.go(0);
        x.go(0);
        x.bank(1, 10, 50);
        x.pledge(0, 1, 1);
        x.split(1, 7);
        x.go(0);
        Check.law(x, "keep 100", 4, 4);
        x.crop(1, 9);
        x.go(0);
        check.due("the one KEPT comes ahead of it", x.receipt(3, 2), 4);
        check.due("the HOLDER", x.receipt(4, 0), 13);
        check.due("sacks", x.receipt(4, 1), 15);
        check.due("the same YEAR", x.receipt(4, 2), 0);
        check.due("not PLEDGED", x.receipt(4, 3), -1);
        check.due("RECEIPTS", x.count(2), 5);
        check.due("what is left", x.receipt(0, 1), 85);
        check.due("has its HOLDER", x.receipt(0, 0), 0);
    }

    private static void noNextNumber() {
        check.sentence("if there is none, or the BANK would have all, this one itself goes to it");
        SurplusLand x = Lands.stored(1000);
        x.split(0, 100);
        x.bank(0, 10, 50);
        x.pledge(1, 0, 1);
        for (int n = 2; n < 399; n++) {
            x.split(0, 1);
        }
        x.go(0);
        check.due("the last number is left", x.split(0, 1), 399);
        check.due("no number for a CROP", x.go(0), -3);
        SurplusLand y = Lands.stored(1000);
        y.split(0, 100);
        y.bank(0, 10, 50);
        y.pledge(1, 0, 1);
        for (int n = 2; n < 399; n++) {
            y.split(0, 1);
        }
        y.go(0);
        Check.law(y, "keep 100", 2, 2);
        y.crop(0, 3);
        check.due("the CROP takes the last number", y.go(0), 3);
        check.due("RECEIPTS", y.count(2), 400);
        check.due("not paid", y.count(9), 1);
        check.due("this one itself", y.receipt(1, 0), 12);
        check.due("with all its sacks", y.receipt(1, 1), 100);
        check.due("no loan", y.receipt(1, 3), -1);
    }

    private static void bankWouldHaveAll() {
        check.sentence("or the BANK would have all, this one itself goes to it");
        int[] parts = {98, 99, 100};
        for (int part : parts) {
            SurplusLand x = Lands.stored(100);
            x.bank(2, part, 1);
            x.pledge(0, 2, 1);
            x.go(0);
            x.go(0);
            boolean all = part > 98;
            check.due(part + ": RECEIPTS", x.count(2), all ? 1 : 2);
            check.due(part + ": HOLDER", x.receipt(0, 0), all ? 14 : 0);
            check.due(part + ": sacks", x.receipt(0, 1), all ? 100 : 1);
            check.due(part + ": not paid", x.count(9), 1);
        }
    }

    private static void leastNumberOfSacks() {
        check.sentence("with the least number of sacks that are worth OWED at PRICE");
        int[] rates = {1, 50, 99, 100};
        for (int rate : rates) {
            check.due((100 + rate) + " at 100", whenDue(rate).receipt(1, 1), 2);
        }
        SurplusLand x = Lands.stored(100);
        x.bank(0, 2, 50);
        x.pledge(0, 0, 1);
        x.go(0);
        x.go(0);
        check.due("300 at 100", x.receipt(1, 1), 3);
        SurplusLand y = Lands.stored(100);
        y.bank(0, 2, 51);
        y.pledge(0, 0, 1);
        y.go(0);
        y.go(0);
        check.due("302 at 100", y.receipt(1, 1), 4);
    }

    private static void atThePriceThen() {
        check.sentence("at PRICE (as it is then)");
        int[] prices = {50, 99, 100, 101, 151, 10000};
        int[] sacks = {30, 16, 15, 15, 10, 1};
        for (int i = 0; i < prices.length; i++) {
            SurplusLand x = Lands.stored(100);
            x.bank(0, 10, 50);
            x.pledge(0, 0, 1);
            x.go(0);
            Lands.price(x, prices[i]);
            check.due("PRICE", x.count(3), prices[i]);
            check.due("1500 at " + prices[i], x.receipt(1, 1), sacks[i]);
        }
        SurplusLand y = Lands.stored(500);
        Lands.price(y, 1);
        y.bank(0, 1, 100);
        check.due("lent at 1", y.pledge(0, 0, 1), 5);
        y.go(0);
        y.go(0);
        check.due("10 at 1", y.receipt(1, 1), 10);
    }

    private static void atMostAll() {
        check.sentence("but at most all; the loan is gone.");
        SurplusLand x = Lands.stored(100);
        x.bank(0, 100, 100);
        x.pledge(0, 0, 1);
        x.go(0);
        Lands.price(x, 1);
        check.due("20000 at 1", x.receipt(0, 0), 12);
        check.due("all", x.receipt(0, 1), 100);
        SurplusLand y = Lands.stored(100);
        y.bank(0, 100, 100);
        y.pledge(0, 0, 1);
        Check.law(y, "still 0", 1, 1);
        y.go(0);
        y.go(0);
        check.due("all of none", y.receipt(0, 1), 0);
        check.due("this one itself", y.receipt(0, 0), 12);
        check.due("RECEIPTS", y.count(2), 1);
    }

    private static void theLoanIsGone() {
        check.sentence("the loan is gone.");
        SurplusLand x = whenDue(100);
        check.due("OWED", x.owed(0, 1), 0);
        check.due("not PLEDGED", x.receipt(0, 3), -1);
        check.due("not due", x.receipt(0, 5), -1);
        check.due("can be split", x.split(0, 1), 2);
        check.due("can be PLEDGED", x.pledge(0, 0, 1), 97);
        SurplusLand y = Lands.stored(100);
        y.bank(0, 10, 50);
        y.pledge(0, 0, 1);
        y.pledge(0, 1, 9);
        y.pay(0, 2);
        y.bank(1, 1, 100);
        y.pledge(0, 1, 9);
        y.go(0);
        y.go(0);
        check.due("RANK 2 alone becomes RANK 1", y.receipt(0, 3), 1);
        check.due("it has its OWED", y.owed(0, 1), 100);
        check.due("no RANK 2", y.receipt(0, 4), -1);
    }

    private static void allLoansAreGone() {
        check.sentence("If the RECEIPT itself went, all its loans are gone.");
        SurplusLand x = Lands.stored(100);
        x.bank(0, 100, 100);
        x.bank(1, 100, 100);
        x.pledge(0, 0, 1);
        x.pledge(0, 1, 9);
        x.go(0);
        x.go(0);
        check.due("RANK 1 takes all", x.receipt(0, 0), 12);
        for (int what = 3; what <= 6; what++) {
            check.due("receipt(0, " + what + ")", x.receipt(0, what), -1);
        }
        check.due("OWED", x.owed(0, 1) + x.owed(0, 2), 0);
        check.due("MONEY of the other BANK stays", x.money(13), -5000);
        SurplusLand y = Lands.stored(100);
        y.bank(1, 100, 100);
        y.bank(2, 1, 0);
        y.pledge(0, 2, 9);
        y.pledge(0, 1, 1);
        y.go(0);
        y.go(0);
        check.due("RANK 2 takes all", y.receipt(0, 0), 13);
        for (int what = 3; what <= 6; what++) {
            check.due("receipt(0, " + what + ")", y.receipt(0, what), -1);
        }
        y.go(0);
        check.due("one was not paid", y.count(9), 1);
    }
}
