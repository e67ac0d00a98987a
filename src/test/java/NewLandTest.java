/** Promises 1 to 4: a new object, terms, bank, grower. */
public final class NewLandTest {
    private static final Check check = new Check();

    public static void main(String[] args) {
        newObject();
        firstTerms();
        terms();
        termsAtWork();
        bank();
        grower();
        check.finish();
    }

    private static void newObject() {
        SurplusLand x = new SurplusLand();
        long[] counts = {0, 0, 0, 100, 0, 0, 0, 0, 0, 0, 0};
        for (int what = 0; what < counts.length; what++) {
            check.due("new count(" + what + ")", x.count(what), counts[what]);
        }
        for (int what = -1; what < 9; what++) {
            check.due("new sum(" + what + ")", x.sum(what), 0);
        }
        for (int holder = -1; holder < 17; holder++) {
            check.due("new money(" + holder + ")", x.money(holder), 0);
        }
        for (int slot = 0; slot < 4; slot++) {
            check.due("new tear(" + slot + ")", x.tear(slot), false);
        }
        check.due("new fault()", x.fault(), SurplusLand.NONE);
        check.due("NONE", SurplusLand.NONE, -1);
        check.due("new growerOf(0, 0)", x.growerOf(0, 0), -1000000);
        check.due("new receipt(0, 0)", x.receipt(0, 0), -2);
        check.due("new go(100)", x.go(100), 1);
        check.due("no text: count(7)", x.count(7), 0);
        check.due("first terms: count(6)", x.count(6), 900);
        check.due("first terms: count(3)", x.count(3), 190);
    }

    private static void firstTerms() {
        SurplusLand x = new SurplusLand();
        x.grower(0, 100);
        x.crop(0, 700);
        x.go(0);
        check.due("high is 120: price 120", x.count(3), 120);
        check.due("plant is 10", x.growerOf(0, 2), 10);
        SurplusLand y = new SurplusLand();
        y.grower(0, 100);
        y.crop(0, 710);
        y.go(0);
        check.due("price 119", y.count(3), 119);
        check.due("not high", y.growerOf(0, 2), 0);
        SurplusLand z = new SurplusLand();
        z.grower(0, 1000);
        Check.law(z, "keep 10", 0, 0);
        z.go(1);
        z.crop(0, 1495);
        z.go(0);
        check.due("quota is 100", z.sum(4), 100);
        check.due("damp is 0", z.sum(6), 0);
        check.due("pull is 100", z.count(3), 100 - 59);
    }

    private static void terms() {
        int[] most = {10000000, 1000000, 1000, 10000000, 10000, 100, 200};
        int[] least = {0, 0, 0, 0, 1, 0, 0};
        for (int i = 0; i < 7; i++) {
            check.due("terms most " + i, withTerm(i, most[i]), 0);
            check.due("terms above " + i, withTerm(i, most[i] + 1), -2);
            check.due("terms least " + i, withTerm(i, least[i]), 0);
            check.due("terms below " + i, withTerm(i, least[i] - 1), -2);
            check.due("terms far above " + i, withTerm(i, Integer.MAX_VALUE), -2);
            check.due("terms far below " + i, withTerm(i, Integer.MIN_VALUE), -2);
        }
        SurplusLand x = new SurplusLand();
        x.terms(5000, 0, 0, 0, 1, 0, 201);
        x.go(0);
        check.due("refused terms change nothing", x.count(6), 900);
    }

    private static int withTerm(int i, int v) {
        int[] t = {1000, 100, 100, 100, 120, 10, 0};
        t[i] = v;
        return new SurplusLand().terms(t[0], t[1], t[2], t[3], t[4], t[5], t[6]);
    }

    private static void termsAtWork() {
        SurplusLand x = new SurplusLand();
        check.due("terms", x.terms(10000000, 1000000, 1000, 0, 10000, 0, 0), 0);
        x.go(0);
        check.due("want 10000000 less 1000000", x.count(6), 9000000);
        check.due("price is cut to 10000", x.count(3), 10000);
        x.go(0);
        check.due("want is 0 at least", x.count(6), 0);
        SurplusLand y = new SurplusLand();
        y.terms(1000, 33, 0, 0, 10000, 0, 0);
        y.go(0);
        check.due("pull 0 leaves the price", y.count(3), 100);
        check.due("slope 33", y.count(6), 967);
    }

    private static void bank() {
        SurplusLand x = new SurplusLand();
        check.due("bank(-1, 0, 0)", x.bank(-1, 0, 0), -2);
        check.due("bank(3, 0, 0)", x.bank(3, 0, 0), -2);
        check.due("bank(0, -1, 0)", x.bank(0, -1, 0), -2);
        check.due("bank(0, 101, 0)", x.bank(0, 101, 0), -2);
        check.due("bank(0, 0, -1)", x.bank(0, 0, -1), -2);
        check.due("bank(0, 0, 101)", x.bank(0, 0, 101), -2);
        check.due("bank(1, 100, 100)", x.bank(1, 100, 100), 0);
        check.due("bank(2, 0, 0)", x.bank(2, 0, 0), 0);
        x.terms(0, 0, 0, 0, 10000, 0, 0);
        x.grower(0, 10);
        Check.law(x, "keep 10", 0, 0);
        x.go(10);
        check.due("a refused bank lends as before", x.pledge(0, 0, 1), 500);
        check.due("and takes its first rate", x.owed(0, 1), 550);
        x.pay(0, 1);
        x.crop(0, 0);
        SurplusLand y = new SurplusLand();
        y.bank(1, 100, 100);
        y.bank(2, 0, 0);
        y.terms(0, 0, 0, 0, 10000, 0, 0);
        y.grower(0, 10);
        Check.law(y, "keep 10", 0, 0);
        y.go(10);
        check.due("part 0 lends nothing", y.pledge(0, 2, 1), -8);
        check.due("part 100 lends all", y.pledge(0, 1, 1), 1000);
        check.due("rate 100 doubles", y.owed(0, 1), 2000);
    }

    private static void grower() {
        SurplusLand x = new SurplusLand();
        check.due("grower(-1, 0)", x.grower(-1, 0), -2);
        check.due("grower(8, 0)", x.grower(8, 0), -2);
        check.due("grower(0, -1)", x.grower(0, -1), -2);
        check.due("grower(0, 1001)", x.grower(0, 1001), -2);
        for (int n = 0; n < 12; n++) {
            check.due("grower " + n, x.grower(n % 8, n == 3 ? 1000 : n), n);
            check.due("count(1)", x.count(1), n + 1);
        }
        check.due("the thirteenth", x.grower(0, 1), -3);
        check.due("the thirteenth, wrong", x.grower(8, 1), -2);
        check.due("its village", x.growerOf(11, 0), 3);
        check.due("its acres", x.growerOf(3, 1), 1000);
        for (int what = 2; what < 7; what++) {
            check.due("nothing at first " + what, x.growerOf(3, what), 0);
        }
        x.go(0);
        check.due("twelve come ahead of a year gone", x.grower(0, 1), -3);
        SurplusLand y = new SurplusLand();
        y.go(0);
        check.due("a year has gone", y.grower(0, 1), -9);
        check.due("a year has gone, wrong", y.grower(0, -1), -2);
        check.due("no grower came", y.count(1), 0);
    }
}
