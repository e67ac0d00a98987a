/** Promises 20 to 24: growerOf, money, count, sum, gains. */
public final class AnswersTest {
    private static final Check check = new Check();

    public static void main(String[] args) {
        growerOf();
        money();
        count();
        sum();
        gains();
        check.finish();
    }

    private static void growerOf() {
        SurplusLand x = new SurplusLand();
        x.grower(7, 40);
        check.due("village", x.growerOf(0, 0), 7);
        check.due("acres", x.growerOf(0, 1), 40);
        check.due("no crop ahead of any year", x.growerOf(0, 7), -1);
        check.due("nothing kept ahead of any year", x.growerOf(0, 8), -1);
        check.due("growerOf(0, -1)", x.growerOf(0, -1), -1000000);
        check.due("growerOf(0, 9)", x.growerOf(0, 9), -1000000);
        check.due("growerOf(1, 0)", x.growerOf(1, 0), -1000000);
        check.due("growerOf(-1, 0)", x.growerOf(-1, 0), -1000000);
        check.due("growerOf(12, 0)", x.growerOf(12, 0), -1000000);
        Check.law(x, "keep 33", 0, 0);
        x.terms(100, 0, 0, 10, 100, 10, 0);
        x.go(5);
        long[] then = {7, 40, 4, 0, 0, 200 - 66 - 100 - 10, 0, 200, 66};
        for (int what = 0; what < 9; what++) {
            check.due("growerOf(0, " + what + ")", x.growerOf(0, what), then[what]);
        }
        x.terms(0, 0, 0, 0, 100, 25, 0);
        Check.law(x, "keep 1;least 41", 1, 2);
        x.go(1);
        long[] freed = {7, 40, 10, 4, 0, 64, 0, 40, 0};
        for (int what = 0; what < 9; what++) {
            check.due("freed: growerOf(0, " + what + ")", x.growerOf(0, what), freed[what]);
        }
        x.crop(0, 150);
        x.terms(0, 0, 0, 0, 101, 25, 0);
        x.go(0);
        long[] last = {7, 40, 0, 10, 4, 64 + 149, 50, 150, 1};
        for (int what = 0; what < 9; what++) {
            check.due("last: growerOf(0, " + what + ")", x.growerOf(0, what), last[what]);
        }
    }

    private static void money() {
        SurplusLand x = new SurplusLand();
        x.terms(30, 0, 0, 0, 10000, 0, 0);
        x.grower(0, 10);
        x.grower(0, 20);
        Check.law(x, "keep 50", 0, 0);
        x.go(1);
        check.due("10 less 5", x.money(0), 500);
        check.due("20 less 10", x.money(1), 1000);
        x.pledge(1, 1, 1);
        check.due("lent", x.money(1), 1500);
        check.due("bank 0", x.money(12), 0);
        check.due("bank 1", x.money(13), -500);
        check.due("bank 2", x.money(14), 0);
        check.due("others", x.money(15), 0);
        check.due("others", x.money(2), 0);
        check.due("others", x.money(11), 0);
        check.due("others", x.money(-1), 0);
    }

    private static void count() {
        SurplusLand x = new SurplusLand();
        x.grower(0, 10);
        x.grower(0, 100);
        Check.law(x, "keep 60", 0, 0);
        x.bank(0, 100, 100);
        x.go(20);
        x.pledge(0, 0, 1);
        x.row(0, 0, 0);
        x.row(2, 3, 60);
        x.feed(1, 2, 3, 4, 5);
        long[] first = {1, 2, 2, 102, 1320, 0, 900, 60, 20, 0, 2};
        for (int what = 0; what < 11; what++) {
            check.due("count(" + what + ")", x.count(what), first[what]);
        }
        x.terms(0, 0, 0, 0, 10000, 0, 0);
        x.give(1, 0);
        x.go(1);
        x.terms(0, 0, 0, 0, 10000, 0, 0);
        x.go(0);
        x.tear(2);
        x.end(7);
        long[] then = {3, 2, 2, 102, 1320, 110, 0, 0, 7, 1, 1};
        for (int what = 0; what < 11; what++) {
            check.due("then count(" + what + ")", x.count(what), then[what]);
        }
        check.due("count(-1)", x.count(-1), -1);
        check.due("count(11)", x.count(11), -1);
        SurplusLand y = new SurplusLand();
        y.terms(0, 0, 0, 0, 10000, 0, 0);
        y.grower(0, 10);
        Check.law(y, "keep 60", 0, 0);
        y.go(1);
        y.bank(0, 100, 100);
        y.pledge(0, 0, 1);
        y.go(0);
        check.due("not due", y.count(9), 0);
        y.go(0);
        check.due("one not paid", y.count(9), 1);
    }

    private static void sum() {
        SurplusLand x = new SurplusLand();
        x.terms(50, 0, 0, 11, 10000, 0, 100);
        x.grower(0, 100);
        Check.law(x, "keep 50", 0, 1);
        Check.law(x, "sell 7", 2, 2);
        Check.law(x, "still 2", 3, 3);
        x.go(2);
        long[] first = {200, 100, 50, 0, 11, 0, 10, 0};
        sums(x, first);
        x.go(1);
        sums(x, new long[] {300, 150, 100, 0, 22, 0, 10 + 9 + 5, 0});
        check.due("store", x.count(4), 81 + 45);
        check.due("free", x.count(5), 39 - 11);
        x.go(0);
        sums(x, new long[] {300, 150, 128, 7, 22, 0, 24 + 7 + 4, 0});
        check.due("store", x.count(4), 67 + 41);
        check.due("taken back", x.redeem(0), 67);
        x.split(1, 1);
        x.go(0);
        sums(x, new long[] {300, 150, 178, 7, 33, 0, 35 + 4, 67});
        Check.law(x, "still 2", 4, 4);
        x.go(0);
        sums(x, new long[] {300, 150, 184, 7, 33, 37, 39, 67});
        check.due("sum(-1)", x.sum(-1), 0);
        check.due("sum(8)", x.sum(8), 0);
    }

    private static void sums(SurplusLand x, long[] due) {
        for (int what = 0; what < 8; what++) {
            check.due("year " + x.count(0) + ": sum(" + what + ")", x.sum(what), due[what]);
        }
    }

    private static void gains() {
        SurplusLand x = new SurplusLand();
        x.terms(10000, 0, 0, 0, 10000, 0, 0);
        x.grower(0, 0);
        x.grower(0, 10);
        x.grower(0, 20);
        x.crop(0, 7);
        x.go(1);
        check.due("gains(10, 20)", x.gains(10, 20), 3000);
        check.due("gains(10, 10)", x.gains(10, 10), 1000);
        check.due("gains(11, 19)", x.gains(11, 19), 0);
        check.due("gains(11, 20)", x.gains(11, 20), 2000);
        check.due("gains(0, 5000)", x.gains(0, 5000), 3700);
        check.due("gains(-5, 0)", x.gains(-5, 0), 700);
        check.due("gains(20, 10)", x.gains(20, 10), 0);
        check.due("gains(min, max)", x.gains(Integer.MIN_VALUE, Integer.MAX_VALUE), 3700);
        x.terms(0, 0, 0, 0, 100, 50, 0);
        x.go(0);
        check.due("young ones do not count", x.gains(10, 20), 3000);
        x.go(0);
        x.go(0);
        check.due("not yet bearing", x.gains(21, 100), 0);
        x.go(0);
        check.due("bearing: 15 and 30", x.gains(21, 100), 2000);
    }
}
