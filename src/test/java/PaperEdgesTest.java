/** The edges that promises 13 to 19 name, sentence by sentence; what is refused changes nothing. */
public final class PaperEdgesTest {
    private static final Check check = new Check();
    private static final Twins fresh = new Twins(check, x -> { });
    private static final Twins lively = new Twins(check, Lands::lively);
    private static final Twins poor = new Twins(check, Lands::poor);
    private static final Twins seized = new Twins(check, Lands::seized);
    private static final Twins ended = new Twins(check, Lands::ended);
    private static final Twins crowded = new Twins(check, Lands::crowded);
    private static final int MIN = Integer.MIN_VALUE;
    private static final int MAX = Integer.MAX_VALUE;

    public static void main(String[] args) {
        splitEdges();
        splitRefused();
        splitOfTheFull();
        splitOfThePledged();
        giveEdges();
        giveRefused();
        giveOfThePledged();
        pledgeRefused();
        pledgeTwice();
        nothingWouldBeLent();
        pledgeYears();
        payRefused();
        payWithLessMoney();
        redeemRefused();
        redeemOfThePledged();
        redeemAtThreeYears();
        receiptOfNone();
        receiptOthers();
        owedOthers();
        check.finish();
    }

    private static void splitEdges() {
        check.sentence("n sacks of a RECEIPT, and its rest, are two from now on: the number of the new one, which has n.");
        SurplusLand x = Lands.stored(10, 2);
        check.due("1 of 10", x.split(0, 1), 2);
        check.due("the rest", x.receipt(0, 1), 9);
        check.due("the new one", x.receipt(2, 1), 1);
        check.due("8 of 9", x.split(0, 8), 3);
        check.due("the rest", x.receipt(0, 1), 1);
        check.due("the new one", x.receipt(3, 1), 8);
        check.due("1 of 2", x.split(1, 1), 4);
        check.due("its HOLDER", x.receipt(4, 0), 1);
        check.due("its YEAR", x.receipt(4, 2), 0);
        check.due("not PLEDGED", x.receipt(4, 3), -1);
        check.due("the STORE", x.count(4), 12);
        SurplusLand y = new SurplusLand();
        Lands.seized(y);
        check.due("of a BANK", y.split(0, 4), 3);
        check.due("its HOLDER", y.receipt(3, 0), 14);
    }

    private static void splitRefused() {
        check.sentence("-2: there is none such that has sacks, n is not 1 or more and less than it has");
        fresh.refused("split(0, 1)", -2, x -> x.split(0, 1));
        SurplusLand x = new SurplusLand();
        Lands.lively(x);
        int papers = x.count(2);
        int sacks = x.receipt(1, 1);
        lively.refused("split(-1, 1)", -2, y -> y.split(-1, 1));
        lively.refused("behind the last", -2, y -> y.split(papers, 1));
        lively.refused("split(400, 1)", -2, y -> y.split(400, 1));
        lively.refused("0 sacks", -2, y -> y.split(1, 0));
        lively.refused("-1 sacks", -2, y -> y.split(1, -1));
        lively.refused("all sacks", -2, y -> y.split(1, sacks));
        lively.refused("more sacks", -2, y -> y.split(1, sacks + 1));
        lively.refused("split(1, min)", -2, y -> y.split(1, MIN));
        lively.refused("split(1, max)", -2, y -> y.split(1, MAX));
        seized.refused("one without sacks", -2, y -> y.split(2, 1));
        seized.refused("one without sacks", -2, y -> y.split(2, 0));
        SurplusLand one = Lands.stored(1);
        check.due("one sack", one.split(0, 1), -2);
    }

    private static void splitOfTheFull() {
        check.sentence("-3: there are 400; -7: it is PLEDGED.");
        crowded.refused("there are 400", -3, x -> x.split(0, 1));
        crowded.refused("there are 400, one of them PLEDGED", -3, x -> x.split(1, 1));
        crowded.refused("there are 400, wrong n", -2, x -> x.split(0, 0));
        SurplusLand x = Lands.stored(1000);
        for (int n = 1; n < 399; n++) {
            x.split(0, 1);
        }
        check.due("the 400th", x.split(0, 601), 399);
        check.due("one more", x.split(399, 600), -3);
        check.due("RECEIPTS", x.count(2), 400);
    }

    private static void splitOfThePledged() {
        check.sentence("-7: it is PLEDGED.");
        lively.refused("PLEDGED twice", -7, x -> x.split(0, 1));
        poor.refused("PLEDGED once", -7, x -> x.split(0, 1));
        poor.refused("PLEDGED, wrong n", -2, x -> x.split(0, 100));
    }

    private static void giveEdges() {
        check.sentence("A RECEIPT has another HOLDER (a GROWER): 0.");
        SurplusLand x = new SurplusLand();
        Lands.seized(x);
        check.due("the last GROWER", x.give(1, 2), 0);
        check.due("HOLDER", x.receipt(1, 0), 2);
        check.due("the first GROWER", x.give(1, 0), 0);
        check.due("HOLDER", x.receipt(1, 0), 0);
        check.due("the same again", x.give(1, 0), 0);
        check.due("from a BANK", x.give(0, 1), 0);
        check.due("HOLDER", x.receipt(0, 0), 1);
        check.due("its sacks", x.receipt(0, 1), 10);
        check.due("no MONEY for it", x.money(14), -1000);
    }

    private static void giveRefused() {
        check.sentence("-2: there are none such, or it has no sacks; -7: it is PLEDGED.");
        fresh.refused("give(0, 0)", -2, x -> x.give(0, 0));
        lively.refused("give(-1, 0)", -2, x -> x.give(-1, 0));
        lively.refused("give(399, 0)", -2, x -> x.give(399, 0));
        lively.refused("give(min, 0)", -2, x -> x.give(MIN, 0));
        lively.refused("give(1, -1)", -2, x -> x.give(1, -1));
        lively.refused("give(1, 3)", -2, x -> x.give(1, 3));
        lively.refused("to a BANK", -2, x -> x.give(1, 12));
        lively.refused("give(1, max)", -2, x -> x.give(1, MAX));
        seized.refused("no sacks", -2, x -> x.give(2, 0));
    }

    private static void giveOfThePledged() {
        check.sentence("or it has no sacks; -7: it is PLEDGED.");
        lively.refused("PLEDGED twice", -7, x -> x.give(0, 1));
        lively.refused("PLEDGED, to its HOLDER", -7, x -> x.give(0, 0));
        poor.refused("PLEDGED once", -7, x -> x.give(0, 0));
        poor.refused("PLEDGED, no such GROWER", -2, x -> x.give(0, 1));
        SurplusLand x = Lands.stored(10);
        x.pledge(0, 0, 5);
        Check.law(x, "sell 10", 1, 1);
        x.go(0);
        check.due("PLEDGED, no sacks", x.give(0, 0), -2);
    }

    private static void pledgeRefused() {
        check.sentence("-2: there are none such, it has no sacks, its HOLDER is a BANK, or another number of YEARS");
        fresh.refused("pledge(0, 0, 1)", -2, x -> x.pledge(0, 0, 1));
        lively.refused("pledge(-1, 0, 1)", -2, x -> x.pledge(-1, 0, 1));
        lively.refused("pledge(399, 0, 1)", -2, x -> x.pledge(399, 0, 1));
        lively.refused("pledge(1, -1, 1)", -2, x -> x.pledge(1, -1, 1));
        lively.refused("pledge(1, 3, 1)", -2, x -> x.pledge(1, 3, 1));
        lively.refused("pledge(1, 12, 1)", -2, x -> x.pledge(1, 12, 1));
        lively.refused("0 YEARS", -2, x -> x.pledge(1, 0, 0));
        lively.refused("10 YEARS", -2, x -> x.pledge(1, 0, 10));
        lively.refused("-1 YEARS", -2, x -> x.pledge(1, 0, -1));
        lively.refused("PLEDGED, 10 YEARS", -2, x -> x.pledge(0, 0, 10));
        lively.refused("pledge(min, max, min)", -2, x -> x.pledge(MIN, MAX, MIN));
        seized.refused("no sacks", -2, x -> x.pledge(2, 0, 1));
        seized.refused("a BANK's, to itself", -2, x -> x.pledge(0, 2, 1));
        seized.refused("a BANK's, to another", -2, x -> x.pledge(0, 0, 1));
        for (int b = 0; b < 3; b++) {
            SurplusLand x = Lands.stored(10);
            x.bank(b, 100, 100);
            x.pledge(0, b, 1);
            x.go(0);
            x.go(0);
            check.due("HOLDER", x.receipt(0, 0), 12 + b);
            check.due("BANK " + b + " holds it", x.pledge(0, (b + 1) % 3, 1), -2);
            check.due("BANK " + b + " can't take it back", x.redeem(0), -2);
        }
    }

    private static void pledgeTwice() {
        check.sentence("-7: it is PLEDGED to that one, or twice");
        poor.refused("to that one", -7, x -> x.pledge(0, 0, 1));
        lively.refused("twice, to the first", -7, x -> x.pledge(0, 0, 1));
        lively.refused("twice, to the second", -7, x -> x.pledge(0, 1, 1));
        lively.refused("twice, to a third", -7, x -> x.pledge(0, 2, 1));
        new Twins(check, x -> {
            Lands.poor(x);
            x.bank(0, 0, 0);
        }).refused("to that one, though nothing would be lent", -7, x -> x.pledge(0, 0, 1));
    }

    private static void nothingWouldBeLent() {
        check.sentence("-8: nothing would be lent.");
        new Twins(check, x -> {
            Lands.lively(x);
            x.bank(2, 0, 50);
        }).refused("PART 0", -8, x -> x.pledge(1, 2, 1));
        new Twins(check, x -> {
            Lands.poor(x);
            x.bank(1, 0, 50);
        }).refused("PART 0, RANK 2", -8, x -> x.pledge(0, 1, 1));
        SurplusLand x = Lands.stored(1);
        Lands.price(x, 50);
        x.bank(0, 1, 0);
        check.due("50 / 100", x.pledge(0, 0, 1), -8);
        x.bank(0, 2, 0);
        check.due("100 / 100", x.pledge(0, 0, 1), 1);
        x.bank(1, 3, 0);
        check.due("half of 1", x.pledge(0, 1, 1), -8);
        x.bank(1, 4, 0);
        check.due("half of 2", x.pledge(0, 1, 1), 1);
    }

    private static void pledgeYears() {
        check.sentence("A RECEIPT is PLEDGED to a BANK for so many YEARS (1 .. 9): what is lent.");
        for (int years = 1; years <= 9; years++) {
            SurplusLand x = Lands.stored(100);
            check.due(years + " YEARS", x.pledge(0, 2, years), 5000);
            check.due("due", x.receipt(0, 5), 1 + years);
        }
    }

    private static void payRefused() {
        check.sentence("The HOLDER of a RECEIPT pays back a loan of a RANK (1, 2): what was OWED. -2: there is none such");
        fresh.refused("pay(0, 1)", -2, x -> x.pay(0, 1));
        lively.refused("pay(-1, 1)", -2, x -> x.pay(-1, 1));
        lively.refused("pay(399, 1)", -2, x -> x.pay(399, 1));
        lively.refused("not PLEDGED", -2, x -> x.pay(1, 1));
        lively.refused("RANK 0", -2, x -> x.pay(0, 0));
        lively.refused("RANK 3", -2, x -> x.pay(0, 3));
        lively.refused("RANK -1", -2, x -> x.pay(0, -1));
        poor.refused("no RANK 2", -2, x -> x.pay(0, 2));
        seized.refused("the loan is gone", -2, x -> x.pay(0, 1));
        SurplusLand x = new SurplusLand();
        Lands.lively(x);
        long owed = x.owed(0, 2);
        check.due("RANK 2", x.pay(0, 2), owed);
        owed = x.owed(0, 1);
        check.due("RANK 1", x.pay(0, 1), owed);
        check.due("RANK 1 again", x.pay(0, 1), -2);
    }

    private static void payWithLessMoney() {
        check.sentence("-7: less MONEY is there.");
        poor.refused("5000 of 5500", -7, x -> x.pay(0, 1));
        SurplusLand less = Lands.stored(100);
        less.bank(0, 1, 1);
        less.pledge(0, 0, 1);
        check.due("100 of 101", less.pay(0, 1), -7);
        SurplusLand just = Lands.stored(100);
        just.bank(0, 1, 0);
        just.pledge(0, 0, 1);
        check.due("100 of 100", just.pay(0, 1), 100);
        check.due("none is left", just.money(0), 0);
        SurplusLand more = Lands.stored(100, 1);
        more.bank(0, 1, 1);
        more.pledge(0, 0, 1);
        more.give(1, 0);
        more.bank(1, 1, 0);
        check.due("one more", more.pledge(1, 1, 1), 1);
        check.due("101 of 101", more.pay(0, 1), 101);
        SurplusLand empty = Lands.stored(100);
        empty.pledge(0, 0, 5);
        Check.law(empty, "sell 100", 1, 1);
        empty.go(0);
        check.due("a RECEIPT without sacks", empty.pay(0, 1), 5500);
    }

    private static void redeemRefused() {
        check.sentence("-2: there is none such that has sacks, or a BANK holds it");
        fresh.refused("redeem(0)", -2, x -> x.redeem(0));
        ended.refused("redeem(-1)", -2, x -> x.redeem(-1));
        ended.refused("redeem(399)", -2, x -> x.redeem(399));
        ended.refused("redeem(min)", -2, x -> x.redeem(MIN));
        seized.refused("no sacks", -2, x -> x.redeem(2));
        seized.refused("a BANK holds it", -2, x -> x.redeem(0));
        SurplusLand x = Lands.stored(7);
        x.bank(0, 100, 100);
        x.pledge(0, 0, 1);
        x.go(0);
        x.go(0);
        x.give(0, 0);
        check.due("given back by the BANK", x.redeem(0), 7);
    }

    private static void redeemOfThePledged() {
        check.sentence("-7: it is PLEDGED; -9: it is not three YEARS old yet.");
        poor.refused("PLEDGED", -7, x -> x.redeem(0));
        lively.refused("PLEDGED twice", -7, x -> x.redeem(0));
        lively.refused("not three YEARS old", -9, x -> x.redeem(1));
        SurplusLand x = Lands.stored(100);
        x.go(0);
        x.go(0);
        x.pledge(0, 0, 9);
        check.due("three YEARS old, PLEDGED", x.redeem(0), -7);
    }

    private static void redeemAtThreeYears() {
        check.sentence("A GROWER takes the fruit of a RECEIPT back: how many sacks.");
        SurplusLand x = Lands.quiet(10);
        Check.law(x, "keep 100", 0, 1);
        x.go(1);
        check.due("one YEAR old", x.redeem(0), -9);
        x.go(2);
        check.due("two YEARS old", x.redeem(0), -9);
        x.go(0);
        check.due("two YEARS old", x.redeem(1), -9);
        check.due("three YEARS old", x.redeem(0), 10);
        check.due("FREE", x.growerOf(0, 5), 10);
        check.due("not twice", x.redeem(0), -2);
        x.go(0);
        check.due("three YEARS old", x.redeem(1), 20);
        check.due("FREE", x.growerOf(0, 5), 30);
        check.due("taken back", x.sum(7), 30);
        check.due("the STORE", x.count(4), 0);
    }

    private static void receiptOfNone() {
        check.sentence("3 to whom it is PLEDGED by RANK 1 (NONE), 4 by RANK 2 (NONE), 5, 6 the YEARS in which these are due"
            + " (NONE).");
        SurplusLand x = Lands.stored(100);
        int[][] due = {{-1, -1, -1, -1}, {2, -1, 5, -1}, {2, 0, 5, 3}};
        for (int loans = 0; loans < 3; loans++) {
            for (int what = 3; what <= 6; what++) {
                check.due(loans + " loans, receipt(0, " + what + ")", x.receipt(0, what), due[loans][what - 3]);
            }
            x.pledge(0, loans == 0 ? 2 : 0, loans == 0 ? 4 : 2);
        }
    }

    private static void receiptOthers() {
        check.sentence("-2 for others.");
        SurplusLand x = Lands.stored(100, 50);
        check.due("receipt(-1, 0)", x.receipt(-1, 0), -2);
        check.due("receipt(2, 0)", x.receipt(2, 0), -2);
        check.due("receipt(400, 0)", x.receipt(400, 0), -2);
        check.due("receipt(min, 0)", x.receipt(MIN, 0), -2);
        check.due("receipt(1, -1)", x.receipt(1, -1), -2);
        check.due("receipt(1, 7)", x.receipt(1, 7), -2);
        check.due("receipt(1, max)", x.receipt(1, MAX), -2);
        check.due("receipt(1, 0)", x.receipt(1, 0), 1);
        check.due("none at all", new SurplusLand().receipt(0, 0), -2);
    }

    private static void owedOthers() {
        check.sentence("What is OWED on a RECEIPT by RANK 1, 2; 0 if nothing, or for others.");
        SurplusLand x = Lands.stored(100);
        check.due("nothing", x.owed(0, 1), 0);
        check.due("nothing", x.owed(0, 2), 0);
        x.pledge(0, 0, 1);
        check.due("RANK 1", x.owed(0, 1), 5500);
        check.due("nothing by RANK 2", x.owed(0, 2), 0);
        x.pledge(0, 1, 1);
        check.due("RANK 2", x.owed(0, 2), 2750);
        int[] others = {-1, 0, 3, MIN, MAX};
        for (int rank : others) {
            check.due("RANK " + rank, x.owed(0, rank), 0);
        }
        int[] papers = {-1, 1, 400, MIN, MAX};
        for (int paper : papers) {
            check.due("RECEIPT " + paper, x.owed(paper, 1), 0);
        }
        check.due("none at all", new SurplusLand().owed(0, 1), 0);
    }
}
