/** The edges that promises 20 to 30 name, sentence by sentence; what is refused changes nothing. */
public final class AnswerEdgesTest {
    private static final Check check = new Check();
    private static final Twins fresh = new Twins(check, x -> { });
    private static final Twins lively = new Twins(check, Lands::lively);
    private static final int MIN = Integer.MIN_VALUE;
    private static final int MAX = Integer.MAX_VALUE;

    public static void main(String[] args) {
        growerAheadOfAny();
        growerOthers();
        moneyOthers();
        countOthers();
        countEdges();
        loansNotPaid();
        sumOthers();
        sumsAtFirst();
        gainsFromTo();
        besideAtTheEdges();
        besideRefused();
        besideWithAFault();
        besideAsTheyWereThen();
        besideLeavesAll();
        lightRefused();
        lightEdges();
        rowRefused();
        rowStays();
        rowInPlaceOfAnother();
        tearEdges();
        writeRefused();
        writeCut();
        pasteRefused();
        pasteBeyond();
        pasteOntoItself();
        check.finish();
    }

    private static void growerAheadOfAny() {
        check.sentence("7 the CROP of the latest YEAR that has gone (NONE ahead of any), 8 what was KEPT of it (NONE"
            + " likewise).");
        SurplusLand x = Lands.quiet(10);
        x.crop(0, 77);
        check.due("CROP ahead of any", x.growerOf(0, 7), -1);
        check.due("KEPT ahead of any", x.growerOf(0, 8), -1);
        Check.law(x, "keep 50", 0, 1);
        x.go(1);
        check.due("CROP", x.growerOf(0, 7), 77);
        check.due("KEPT", x.growerOf(0, 8), 38);
        x.crop(0, 5);
        check.due("this YEAR has not gone", x.growerOf(0, 7), 77);
        x.crop(0, 0);
        x.go(1);
        check.due("CROP of 0", x.growerOf(0, 7), 0);
        check.due("KEPT of 0", x.growerOf(0, 8), 0);
        for (int y = 2; y < 29; y++) {
            x.go(1);
        }
        x.go(3);
        check.due("CROP of YEAR 29", x.growerOf(0, 7), 30);
    }

    private static void growerOthers() {
        check.sentence("-1000000 for others.");
        SurplusLand x = Lands.quiet(10, 20);
        for (int what = 0; what < 9; what++) {
            check.due("none behind the last", x.growerOf(2, what), -1000000);
            check.due("none ahead of the first", x.growerOf(-1, what), -1000000);
            check.due("a BANK is none", x.growerOf(12, what), -1000000);
        }
        int[] others = {-1, 9, MIN, MAX};
        for (int what : others) {
            check.due("what " + what, x.growerOf(1, what), -1000000);
            check.due("GROWER " + what, x.growerOf(what, 1), -1000000);
        }
        check.due("the last one", x.growerOf(1, 1), 20);
        check.due("none at all", new SurplusLand().growerOf(0, 0), -1000000);
    }

    private static void moneyOthers() {
        check.sentence("MONEY of a GROWER; of BANK b for 12 + b. 0 for others.");
        SurplusLand x = Lands.stored(10, 10);
        x.pledge(0, 0, 1);
        x.pledge(1, 2, 1);
        long[] due = {500, 500, 0, 0, 0, 0, 0, 0, 0, 0, 0, 0, -500, 0, -500, 0};
        for (int holder = 0; holder < due.length; holder++) {
            check.due("money(" + holder + ")", x.money(holder), due[holder]);
        }
        check.due("money(-1)", x.money(-1), 0);
        check.due("money(min)", x.money(MIN), 0);
        check.due("money(max)", x.money(MAX), 0);
    }

    private static void countOthers() {
        check.sentence("9 loans that were not paid when due, 10 SLOTS that have a row. NONE for others.");
        SurplusLand x = new SurplusLand();
        Lands.lively(x);
        int[] others = {-1, 11, 12, MIN, MAX};
        for (int what : others) {
            check.due("count(" + what + ")", x.count(what), -1);
        }
        check.due("count(10)", x.count(10), 3);
    }

    private static void countEdges() {
        check.sentence("4 the STORE, 5 FREE sacks of all, 6 what was WANTED in the latest YEAR, 7 the part that was KEPT in"
            + " it");
        SurplusLand x = new SurplusLand();
        for (int what = 4; what <= 7; what++) {
            check.due("ahead of any: count(" + what + ")", x.count(what), 0);
        }
        SurplusLand y = Lands.quiet(new int[12]);
        Check.law(y, "keep 100 if year<2", 0, 29);
        for (int year = 0; year < 4; year++) {
            for (int n = 0; n < 12; n++) {
                y.crop(n, 500000);
            }
            y.go(0);
        }
        check.due("the STORE", y.count(4), 12000000);
        check.due("FREE", y.count(5), 12000000);
        check.due("KEPT in the latest YEAR", y.count(7), 0);
        y.terms(10000000, 0, 0, 0, 10000, 0, 0);
        check.due("WANTED in the latest YEAR", y.count(6), 0);
        y.go(0);
        check.due("WANTED in the latest YEAR", y.count(6), 10000000);
        check.due("all of it went", y.count(5), 2000000);
    }

    private static void loansNotPaid() {
        check.sentence("9 loans that were not paid when due");
        SurplusLand x = Lands.stored(100, 100, 100);
        x.bank(0, 10, 100);
        x.pledge(0, 0, 1);
        x.pledge(1, 0, 1);
        x.pledge(2, 0, 9);
        check.due("none is due", x.count(9), 0);
        x.go(0);
        check.due("none is due", x.count(9), 0);
        x.go(0);
        check.due("two are not paid", x.count(9), 2);
        x.go(0);
        check.due("they are gone", x.count(9), 2);
        SurplusLand y = Lands.stored(100);
        y.pledge(0, 0, 1);
        check.due("refused", y.pay(0, 1), -7);
        check.due("it was not due", y.count(9), 0);
    }

    private static void sumOthers() {
        check.sentence("6 lost by damp, 7 taken back. 0 for others.");
        SurplusLand x = new SurplusLand();
        Lands.lively(x);
        int[] others = {-1, 8, 9, MIN, MAX};
        for (int what : others) {
            check.due("sum(" + what + ")", x.sum(what), 0);
        }
        check.due("sum(6) is none of them", x.sum(6) > 0, true);
    }

    private static void sumsAtFirst() {
        check.sentence("Sacks in all YEARS: 0 CROPS, 1 KEPT, 2 sold abroad by GROWERS");
        for (int what = 0; what < 8; what++) {
            check.due("at first sum(" + what + ")", new SurplusLand().sum(what), 0);
        }
        SurplusLand x = Lands.quiet(new int[12]);
        for (int year = 0; year < 30; year++) {
            for (int n = 0; n < 12; n++) {
                x.crop(n, 500000);
            }
            x.go(0);
        }
        check.due("the most CROPS", x.sum(0), 180000000);
        check.due("all are FREE", x.count(5), 180000000);
    }

    private static void gainsFromTo() {
        check.sentence("MONEY of those GROWERS together that have (BEARING) acres from .. to.");
        SurplusLand x = Lands.quiet(0, 10, 10, 11, 1000);
        x.terms(10000000, 0, 0, 0, 10000, 0, 0);
        for (int n = 0; n < 5; n++) {
            x.crop(n, 1 << n);
        }
        x.go(0);
        check.due("10 .. 10", x.gains(10, 10), 600);
        check.due("10 .. 11", x.gains(10, 11), 1400);
        check.due("11 .. 999", x.gains(11, 999), 800);
        check.due("12 .. 1000", x.gains(12, 1000), 1600);
        check.due("0 .. 0", x.gains(0, 0), 100);
        check.due("1 .. 9", x.gains(1, 9), 0);
        check.due("11 .. 10", x.gains(11, 10), 0);
        check.due("-1 .. 5000", x.gains(-1, 5000), 3100);
        check.due("min .. max", x.gains(MIN, MAX), 3100);
        check.due("max .. min", x.gains(MAX, MIN), 0);
        check.due("1001 .. max", x.gains(1001, MAX), 0);
        check.due("nobody", new SurplusLand().gains(MIN, MAX), 0);
    }

    private static void besideAtTheEdges() {
        check.sentence("at the end of these YEARS 0 PRICE, 1 the STORE, 2 MONEY of all GROWERS, 3 their BEARING acres, 4"
            + " FREE sacks.");
        SurplusLand x = new SurplusLand();
        long[] nobody = {100, 0, 0, 0, 0};
        for (int what = 0; what < 5; what++) {
            check.due("no YEAR, nobody: " + what, Check.beside(x, "keep 50", what), nobody[what]);
        }
        x.grower(0, 7);
        x.grower(1, 1000);
        x.crop(0, 5);
        long[] ahead = {100, 0, 0, 1007, 0};
        for (int what = 0; what < 5; what++) {
            check.due("no YEAR: " + what, Check.beside(x, "keep 50", what), ahead[what]);
        }
        x.terms(10000, 0, 0, 0, 10000, 0, 0);
        x.crop(1, 4);
        x.go(0);
        long[] first = {100, 4, 500, 1007, 0};
        for (int what = 0; what < 5; what++) {
            check.due("one YEAR: " + what, Check.beside(x, "keep 100;free 0", what), first[what]);
        }
        check.due("MONEY of two", Check.beside(x, "still 9", 2), 900);
        SurplusLand y = Lands.quiet(1000);
        for (int n = 0; n < 30; n++) {
            y.go(n);
        }
        check.due("all YEARS", Check.beside(y, "keep 100", 1), 435000);
        check.due("all YEARS", Check.beside(y, "keep 100 if year=29", 1), 29000);
        check.due("all YEARS", Check.beside(y, "keep 100 if year<2", 4), 434000);
    }

    private static void besideRefused() {
        check.sentence("-2, and the TAPE stays, for another what");
        int[] others = {-1, 5, 6, MIN, MAX};
        for (int what : others) {
            lively.refused("beside(" + what + ")", -2, x -> x.beside(what));
            fresh.refused("beside(" + what + ") of an empty TAPE", -2, x -> x.beside(what));
        }
        new Twins(check, x -> Check.type(x, "keep")).refused("a FAULT is not looked for", -2, x -> x.beside(5));
    }

    private static void besideWithAFault() {
        check.sentence("-4: it has a FAULT.");
        for (int what = 0; what < 5; what++) {
            SurplusLand x = new SurplusLand();
            Lands.lively(x);
            x.end(0);
            check.due("empty", x.beside(what), -4);
            check.due("its place", x.fault(), 0);
            check.due("a FAULT", Check.beside(x, "keep 1 if year<3 and", what), -4);
            check.due("its place", x.fault(), 20);
            check.due("the TAPE is empty", x.count(8), 0);
            check.due("13 CLAUSES", Check.beside(x, "free 1;".repeat(12) + "keep 1", what), -4);
            check.due("its place", x.fault(), 84);
        }
    }

    private static void besideAsTheyWereThen() {
        check.sentence("the GROWERS as they came, these TERMS, yields and the CROPS that were told for the YEARS that have"
            + " gone (as they were then; where none was told BEARING acres there times the yield), no BANKS, and no more");
        SurplusLand x = new SurplusLand();
        x.terms(0, 0, 0, 0, 1, 100, 0);
        x.grower(0, 10);
        x.grower(1, 10);
        x.crop(0, 0);
        x.go(100);
        x.go(0);
        x.go(0);
        x.go(0);
        check.due("acres here", x.growerOf(0, 1), 20);
        x.go(1);
        x.right(0, 0, 500000);
        x.crop(1, 500000);
        check.due("a CROP of 0 was told, 1000, and 20 each there", Check.beside(x, "keep 0", 4), 1000 + 40);
        x.terms(0, 0, 0, 0, 10000, 100, 0);
        check.due("by these TERMS no vines are set", Check.beside(x, "keep 0", 3), 20);
        check.due("BEARING acres there times the yield", Check.beside(x, "keep 0", 4), 1000 + 20);
        x.bank(0, 100, 100);
        x.go(0);
        check.due("no REST there", Check.beside(x, "keep 100", 1), 1020 + 500000);
    }

    private static void besideLeavesAll() {
        check.sentence("The TAPE (empty then) as LAW of all YEARS, in a land BESIDE");
        Twins twins = new Twins(check, x -> {
            Lands.lively(x);
            x.end(0);
            Check.law(x, "keep 3", 29, 29);
        });
        for (int what = 0; what < 5; what++) {
            int w = what;
            twins.refused("beside, once and again", 0, x -> {
                long first = Check.beside(x, "keep 77;sell 5;still 1;free 2", w);
                check.due("the TAPE is empty", x.count(8), 0);
                return first - Check.beside(x, "keep 77;sell 5;still 1;free 2", w);
            });
        }
    }

    private static void lightRefused() {
        check.sentence("-2: something is not as told (n is 0 .. all, k 0 .. n).");
        int[][] wrong = {{0, 0, 0, 0}, {-1, 0, 0, 0}, {61, 5, 2, 0}, {MAX, 5, 2, 1}, {MIN, 0, 0, 1}, {10, -1, 0, 0},
            {10, 11, 0, 0}, {10, MAX, 0, 1}, {10, MIN, 0, 1}, {10, 5, -1, 0}, {10, 5, 6, 0}, {10, 5, MAX, 1},
            {10, 5, MIN, 1}, {10, 5, 2, -1}, {10, 5, 2, 2}, {10, 5, 2, MAX}, {10, 5, 2, MIN}, {60, 61, 61, 0}};
        for (int[] w : wrong) {
            lively.refused("light(" + w[0] + ", " + w[1] + ", " + w[2] + ", " + w[3] + ")", -2,
                x -> x.light(w[0], w[1], w[2], w[3]));
        }
    }

    private static void lightEdges() {
        check.sentence("Of n sacks DRAWN from all (1 .. 60) k were light");
        SurplusLand x = new SurplusLand();
        check.due("one, none drawn, least", x.light(1, 0, 0, 0), 0);
        check.due("one, none drawn, greatest", x.light(1, 0, 0, 1), 1);
        check.due("one, drawn, not light", x.light(1, 1, 0, 0), 0);
        check.due("one, drawn, not light", x.light(1, 1, 0, 1), 0);
        check.due("one, drawn, light", x.light(1, 1, 1, 0), 1);
        check.due("one, drawn, light", x.light(1, 1, 1, 1), 1);
        check.due("sixty, none drawn, least", x.light(60, 0, 0, 0), 0);
        check.due("sixty, none drawn, greatest", x.light(60, 0, 0, 1), 60);
        for (int k = 0; k <= 60; k++) {
            check.due("sixty, all drawn, least", x.light(60, 60, k, 0), k);
            check.due("sixty, all drawn, greatest", x.light(60, 60, k, 1), k);
        }
    }

    private static void rowRefused() {
        check.sentence("-2: there is no such SLOT or WIDTH, or n is above 60");
        int[][] wrong = {{-1, 0, 1}, {4, 0, 1}, {MIN, 0, 1}, {0, -1, 1}, {0, 4, 1}, {0, MAX, 1}, {0, 2, 61}, {2, 0, 61},
            {0, 2, MAX}, {4, 0, -1}, {0, 4, -1}, {-1, 0, MIN}};
        for (int[] w : wrong) {
            lively.refused("row(" + w[0] + ", " + w[1] + ", " + w[2] + ")", -2, x -> x.row(w[0], w[1], w[2]));
        }
    }

    private static void rowStays() {
        check.sentence("-3, and the SLOT stays: n is below 0.");
        for (int slot = 0; slot < 4; slot++) {
            int s = slot;
            lively.refused("row(" + s + ", 2, -1)", -3, x -> x.row(s, 2, -1));
            lively.refused("row(" + s + ", 0, min)", -3, x -> x.row(s, 0, MIN));
        }
    }

    private static void rowInPlaceOfAnother() {
        check.sentence("A SLOT has a row of n numbers of a WIDTH, all 0 (in place of another one): 0.");
        SurplusLand x = Lands.quiet(1);
        for (int width = 0; width < 4; width++) {
            check.due("one number", x.row(0, width, 1), 0);
            x.write(0, 0, 99);
            check.due("in place of it", x.row(0, width, 1), 0);
            x.crops(0);
            x.go(5);
            check.due("0", x.growerOf(0, 7), 0);
        }
        x.row(0, 2, 2);
        x.write(0, 0, 7);
        x.write(0, 1, 8);
        check.due("shorter", x.row(0, 2, 1), 0);
        check.due("the second is no more", x.write(0, 1, 1), -6);
        check.due("longer", x.row(0, 2, 60), 0);
        x.paste(0, 1, 0, 0, 1);
        x.crops(0);
        x.go(5);
        check.due("the second is 0 too", x.growerOf(0, 7), 0);
        check.due("of none", x.row(0, 2, 0), 0);
        check.due("it has no number", x.write(0, 0, 1), -6);
        check.due("but is a row", x.count(10), 1);
        check.due("another WIDTH", x.row(0, 1, 3), 0);
        x.row(1, 1, 3);
        check.due("of one WIDTH", x.paste(0, 0, 1, 0, 3), 0);
    }

    private static void tearEdges() {
        check.sentence("The SLOT has nothing: true; false, if it had nothing, or there is none such.");
        SurplusLand x = new SurplusLand();
        int[] others = {-1, 4, MIN, MAX};
        for (int slot : others) {
            lively.refused("tear(" + slot + ")", 0, y -> y.tear(slot) ? 1 : 0);
        }
        lively.refused("tear(3), which has nothing", 0, y -> y.tear(3) ? 1 : 0);
        for (int slot = 0; slot < 4; slot++) {
            check.due("nothing", x.tear(slot), false);
            x.row(slot, slot, slot);
            check.due("a row of " + slot, x.tear(slot), true);
            check.due("nothing", x.tear(slot), false);
            check.due("nothing", x.write(slot, 0, 1), -5);
            check.due("nothing", x.count(10), 0);
        }
    }

    private static void writeRefused() {
        check.sentence("Number i of the SLOT's row is v, cut to its WIDTH: 0. -2: there is no such SLOT; -5: it has nothing;"
            + " -6: there is no such number.");
        int[] slots = {-1, 4, MIN, MAX};
        for (int slot : slots) {
            lively.refused("write(" + slot + ", 0, 5)", -2, x -> x.write(slot, 0, 5));
            lively.refused("write(" + slot + ", -1, 5)", -2, x -> x.write(slot, -1, 5));
        }
        lively.refused("write(3, 0, 5)", -5, x -> x.write(3, 0, 5));
        lively.refused("write(3, -1, 5)", -5, x -> x.write(3, -1, 5));
        int[] places = {-1, 4, 5, 60, MIN, MAX};
        for (int i : places) {
            lively.refused("write(0, " + i + ", 5)", -6, x -> x.write(0, i, 5));
        }
        lively.refused("write(1, 2, 5)", -6, x -> x.write(1, 2, 5));
        lively.refused("write(2, 60, 5)", -6, x -> x.write(2, 60, 5));
        SurplusLand x = new SurplusLand();
        x.row(0, 0, 0);
        check.due("a row of none", x.write(0, 0, 1), -6);
        x.row(3, 3, 60);
        check.due("the last number", x.write(3, 59, Long.MIN_VALUE), 0);
    }

    /** The number that a row has after v was written, seen as a crop; -4 if it is none. */
    private static long written(int width, long v) {
        SurplusLand x = Lands.quiet(1);
        x.row(1, width, 1);
        x.write(1, 0, v);
        if (x.crops(1) < 0) {
            return -4;
        }
        x.go(0);
        return x.growerOf(0, 7);
    }

    private static void writeCut() {
        check.sentence("Number i of the SLOT's row is v, cut to its WIDTH: 0.");
        int[] bits = {8, 16, 32};
        for (int width = 0; width < 3; width++) {
            long around = 1L << bits[width];
            check.due("0 of WIDTH " + width, written(width, 0), 0);
            check.due("once around, WIDTH " + width, written(width, around), 0);
            check.due("once around and 1, WIDTH " + width, written(width, around + 1), 1);
            check.due("one below, WIDTH " + width, written(width, around - 1), -4);
            check.due("around below 0, WIDTH " + width, written(width, -around + 3), 3);
            check.due("half way, WIDTH " + width, written(width, around / 2), -4);
            check.due("-1 of WIDTH " + width, written(width, -1), -4);
            check.due("the least, WIDTH " + width, written(width, Long.MIN_VALUE), 0);
            check.due("the greatest, WIDTH " + width, written(width, Long.MAX_VALUE), -4);
        }
        check.due("the most of a byte", written(0, 127), 127);
        check.due("the most of two bytes", written(1, 32767), 32767);
        check.due("eight bytes", written(3, 500000), 500000);
        check.due("eight bytes are not cut", written(3, (1L << 32) + 5), -4);
        check.due("eight bytes are not cut", written(3, Long.MIN_VALUE), -4);
    }

    private static void pasteRefused() {
        check.sentence("-2: there is no such SLOT; -5: one has nothing; -7: they are not of one WIDTH");
        int[] slots = {-1, 4, MIN, MAX};
        for (int slot : slots) {
            lively.refused("from SLOT " + slot, -2, x -> x.paste(slot, 0, 0, 0, 1));
            lively.refused("to SLOT " + slot, -2, x -> x.paste(0, 0, slot, 0, 1));
            lively.refused("from nothing to SLOT " + slot, -2, x -> x.paste(3, 0, slot, 0, 1));
        }
        lively.refused("from nothing", -5, x -> x.paste(3, 0, 0, 0, 1));
        lively.refused("to nothing", -5, x -> x.paste(0, 0, 3, 0, 1));
        lively.refused("nothing to itself", -5, x -> x.paste(3, 0, 3, 0, 0));
        lively.refused("beyond, to nothing", -5, x -> x.paste(0, -1, 3, 0, 1));
        lively.refused("4 bytes to 2", -7, x -> x.paste(0, 0, 1, 0, 1));
        lively.refused("2 bytes to 4", -7, x -> x.paste(1, 0, 0, 0, 1));
        lively.refused("beyond, 4 bytes to 2", -7, x -> x.paste(0, 9, 1, 9, -1));
        SurplusLand x = new SurplusLand();
        for (int width = 0; width < 4; width++) {
            x.row(width, width, 5);
        }
        for (int from = 0; from < 4; from++) {
            for (int to = 0; to < 4; to++) {
                check.due("WIDTH " + from + " to " + to, x.paste(from, 0, to, 0, 5), from == to ? 0 : -7);
            }
        }
    }

    private static void pasteBeyond() {
        check.sentence("-6, and nothing happens: some are beyond their rows, or a place or n is below 0.");
        int[][] wrong = {{0, -1, 2, 0, 1}, {0, 0, 2, -1, 1}, {0, 0, 2, 0, -1}, {0, 0, 2, 0, 5}, {0, 1, 2, 0, 4},
            {0, 4, 2, 0, 1}, {0, 0, 2, 59, 2}, {0, 0, 2, 60, 1}, {2, 0, 0, 0, 5}, {2, 0, 0, 4, 1}, {2, 60, 0, 0, 1},
            {0, MAX, 2, 0, 1}, {0, 0, 2, MAX, 1}, {0, 0, 2, 0, MAX}, {0, 1, 2, 1, MAX}, {0, MIN, 2, MIN, MIN},
            {0, MAX, 2, MAX, MAX}, {0, 0, 2, 0, MIN}, {0, 1, 0, 2, 3}, {0, -1, 0, 0, 0}, {0, 0, 0, -1, 0},
            {0, 5, 2, 0, 0}, {0, 0, 2, 61, 0}};
        for (int[] w : wrong) {
            lively.refused("paste(" + w[0] + ", " + w[1] + ", " + w[2] + ", " + w[3] + ", " + w[4] + ")", -6,
                x -> x.paste(w[0], w[1], w[2], w[3], w[4]));
        }
        lively.refused("none of them", 0, x -> x.paste(0, 2, 2, 7, 0));
        lively.refused("none of them, at both ends", 0, x -> x.paste(0, 4, 2, 60, 0));
        lively.refused("all, to where they are", 0, x -> x.paste(0, 0, 0, 0, 4));
        SurplusLand x = new SurplusLand();
        Lands.lively(x);
        check.due("up to the last", x.paste(0, 0, 2, 56, 4), 0);
        check.due("from the last", x.paste(2, 59, 0, 3, 1), 0);
    }

    /** A row of 1 2 3 4 5 after its own numbers were put elsewhere in it. */
    private static String pasted(int i, int k, int n) {
        SurplusLand x = Lands.quiet(1, 1, 1, 1, 1);
        x.row(2, 3, 5);
        for (int at = 0; at < 5; at++) {
            x.write(2, at, at + 1);
        }
        x.paste(2, i, 2, k, n);
        x.crops(2);
        x.go(0);
        StringBuilder out = new StringBuilder();
        for (int g = 0; g < 5; g++) {
            out.append(x.growerOf(g, 7));
        }
        return out.toString();
    }

    private static void pasteOntoItself() {
        check.sentence("So many numbers of a SLOT's row, from place i on, are put to another one's (or its own), from place k"
            + " on, as they were: 0.");
        String[] due = {"12345", "11234", "11245", "12312", "23455", "45345", "12341", "52345"};
        int[][] moves = {{0, 0, 5}, {0, 1, 4}, {0, 1, 2}, {0, 3, 2}, {1, 0, 4}, {3, 0, 2}, {0, 4, 1}, {4, 0, 1}};
        for (int m = 0; m < moves.length; m++) {
            String got = pasted(moves[m][0], moves[m][1], moves[m][2]);
            check.due("move " + m + " gives " + got, got.equals(due[m]), true);
        }
        SurplusLand x = Lands.quiet(1, 1);
        x.row(0, 0, 2);
        x.row(3, 0, 2);
        x.write(0, 0, 5);
        x.write(3, 1, 6);
        check.due("to another", x.paste(0, 0, 3, 0, 1), 0);
        x.write(0, 0, 9);
        x.crops(3);
        x.go(0);
        check.due("as it was", x.growerOf(0, 7), 5);
        check.due("the rest stays", x.growerOf(1, 7), 6);
    }
}
