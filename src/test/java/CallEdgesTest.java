/** The edges that promises 1 to 12 name, sentence by sentence; what is refused changes nothing. */
public final class CallEdgesTest {
    private static final Check check = new Check();
    private static final Twins fresh = new Twins(check, x -> { });
    private static final Twins lively = new Twins(check, Lands::lively);
    private static final Twins ended = new Twins(check, Lands::ended);
    private static final Twins peopled = new Twins(check, Lands::peopled);
    private static final Twins crowded = new Twins(check, Lands::crowded);

    public static void main(String[] args) {
        newObject();
        termsRefused();
        bankRefused();
        bankEdges();
        growerRefused();
        growerNumbers();
        feedBytes();
        feedBeyond();
        endWithin();
        endRefused();
        lawInPlaceOfWhatWas();
        lawRefused();
        lawWithAFault();
        faultOfTheLatest();
        cropRefused();
        cropsOfAll();
        cropsRefused();
        goRefused();
        goEdges();
        noNumbersLeft();
        rightRefused();
        check.finish();
    }

    private static void newObject() {
        check.sentence("No GROWERS, YEAR 0, no texts; PRICE 100; SLOTS have nothing; an empty TAPE.");
        SurplusLand x = new SurplusLand();
        check.due("GROWERS", x.count(1), 0);
        check.due("YEAR", x.count(0), 0);
        check.due("PRICE", x.count(3), 100);
        check.due("TAPE", x.count(8), 0);
        check.due("rows", x.count(10), 0);
        check.due("RECEIPTS", x.count(2), 0);
        for (int slot = 0; slot < 4; slot++) {
            check.due("SLOT " + slot, x.write(slot, 0, 1), -5);
        }
        for (int y = 0; y < 30; y++) {
            x.go(0);
            check.due("no text for YEAR " + y, x.count(7), 0);
        }
        SurplusLand one = new SurplusLand();
        SurplusLand other = new SurplusLand();
        one.grower(1, 5);
        one.row(0, 0, 5);
        one.feed(1, 2, 3, 4, 5);
        Check.law(one, "keep 9", 0, 29);
        one.go(1);
        check.due("an object of its own", other.count(0) + other.count(1) + other.count(8) + other.count(10), 0);
    }

    private static void termsRefused() {
        check.sentence("The TERMS are these: 0. -2: one is not as told in II.");
        int[] least = {0, 0, 0, 0, 1, 0, 0};
        int[] most = {10000000, 1000000, 1000, 10000000, 10000, 100, 200};
        for (int i = 0; i < 7; i++) {
            int[] low = {1, 2, 3, 4, 5, 6, 7};
            int[] high = low.clone();
            low[i] = least[i] - 1;
            high[i] = most[i] + 1;
            lively.refused("terms too small at " + i, -2, x -> terms(x, low));
            lively.refused("terms too large at " + i, -2, x -> terms(x, high));
        }
        check.due("all least", new SurplusLand().terms(0, 0, 0, 0, 1, 0, 0), 0);
        check.due("all most", new SurplusLand().terms(10000000, 1000000, 1000, 10000000, 10000, 100, 200), 0);
    }

    private static int terms(SurplusLand x, int[] t) {
        return x.terms(t[0], t[1], t[2], t[3], t[4], t[5], t[6]);
    }

    private static void bankRefused() {
        check.sentence("-2: there is none such, or one is not as told.");
        lively.refused("bank(-1, 10, 10)", -2, x -> x.bank(-1, 10, 10));
        lively.refused("bank(3, 10, 10)", -2, x -> x.bank(3, 10, 10));
        lively.refused("bank(12, 10, 10)", -2, x -> x.bank(12, 10, 10));
        for (int b = 0; b < 3; b++) {
            int bank = b;
            lively.refused("bank(" + b + ", -1, 10)", -2, x -> x.bank(bank, -1, 10));
            lively.refused("bank(" + b + ", 101, 10)", -2, x -> x.bank(bank, 101, 10));
            lively.refused("bank(" + b + ", 10, -1)", -2, x -> x.bank(bank, 10, -1));
            lively.refused("bank(" + b + ", 10, 101)", -2, x -> x.bank(bank, 10, 101));
        }
    }

    private static void bankEdges() {
        check.sentence("A BANK (0 .. 2) lends by this PART (0 .. 100) and RATE (0 .. 100): 0.");
        for (int b = 0; b < 3; b++) {
            SurplusLand x = Lands.stored(100, 100);
            check.due("the most of " + b, x.bank(b, 100, 100), 0);
            check.due("LENT", x.pledge(0, b, 1), 10000);
            check.due("OWED", x.owed(0, 1), 20000);
            check.due("no RATE of " + b, x.bank(b, 1, 0), 0);
            check.due("LENT", x.pledge(1, b, 1), 100);
            check.due("OWED", x.owed(1, 1), 100);
            check.due("OWED from before", x.owed(0, 1), 20000);
            check.due("the least of " + b, x.bank(b, 0, 0), 0);
            x.pay(1, 1);
            check.due("nothing", x.pledge(1, b, 1), -8);
            check.due("the others as at first", x.pledge(1, (b + 1) % 3, 1), 5000);
        }
    }

    private static void growerRefused() {
        check.sentence("-2: VILLAGE is not 0 .. 7, acres not 0 .. 1000; -3: there are 12; -9: a YEAR has gone.");
        fresh.refused("grower(-1, 1)", -2, x -> x.grower(-1, 1));
        fresh.refused("grower(8, 1)", -2, x -> x.grower(8, 1));
        fresh.refused("grower(0, -1)", -2, x -> x.grower(0, -1));
        fresh.refused("grower(0, 1001)", -2, x -> x.grower(0, 1001));
        peopled.refused("a thirteenth", -3, x -> x.grower(0, 1));
        peopled.refused("a thirteenth of no VILLAGE", -2, x -> x.grower(8, 1));
        lively.refused("grower(0, 1)", -9, x -> x.grower(0, 1));
        lively.refused("a late one of no VILLAGE", -2, x -> x.grower(8, 1));
        ended.refused("at the end", -9, x -> x.grower(0, 1));
        SurplusLand second = new SurplusLand();
        second.go(0);
        check.due("one YEAR has gone", second.grower(0, 1), -9);
        SurplusLand late = new SurplusLand();
        Lands.peopled(late);
        late.go(0);
        check.due("there are 12 and a YEAR has gone", late.grower(0, 1), -3);
    }

    private static void growerNumbers() {
        check.sentence("A GROWER more: the number.");
        SurplusLand x = new SurplusLand();
        check.due("acres 0", x.grower(0, 0), 0);
        check.due("acres 1000", x.grower(7, 1000), 1);
        check.due("BEARING", x.growerOf(0, 1), 0);
        check.due("BEARING", x.growerOf(1, 1), 1000);
        check.due("a refused one", x.grower(7, 1001), -2);
        check.due("takes no number", x.grower(7, 999), 2);
    }

    private static void feedBytes() {
        check.sentence("Twenty bytes come behind the TAPE, of each number the highest first: how many it has");
        SurplusLand x = new SurplusLand();
        check.due("the first twenty", x.feed(0x6b656570, 0x20316966, 0x20313c32, 0x20616e64, 0x20323c33), 20);
        check.due("behind them", x.feed(0x3b667265, 0x6520313b, 0x6c656173, 0x74203b20, 0x20202020), 40);
        check.due("read", x.law(0, 0), -4);
        check.due("the place", x.fault(), 34);
        check.due("the TAPE is empty", x.feed(0xffffffff, 0x80000000, 0x7fffffff, -1, 0), 20);
        x.law(0, 0);
        check.due("a byte of 255", x.fault(), 0);
        x.feed(0x6b656570, 0x20310080, 0, 0, 0);
        x.end(7);
        x.law(0, 0);
        check.due("a byte of 0", x.fault(), 6);
    }

    private static void feedBeyond() {
        check.sentence("NONE, and none come, if it would have more than 300.");
        SurplusLand x = new SurplusLand();
        for (int n = 1; n <= 15; n++) {
            check.due("feed", x.feed(0x20202020, 0x20202020, 0x20202020, 0x20202020, 0x20202020), 20 * n);
        }
        check.due("301 or more", x.feed(0, 0, 0, 0, 0), -1);
        check.due("none came", x.count(8), 300);
        for (int n = 299; n > 280; n--) {
            x.end(n);
            check.due("from " + n, x.feed(0, 0, 0, 0, 0), -1);
            check.due("none came", x.count(8), n);
        }
        x.end(280);
        check.due("just 300", x.feed(0x20202020, 0x20202020, 0x20202020, 0x20202020, 0x20202020), 300);
        check.due("blanks alone", x.law(0, 0), -4);
        check.due("the length", x.fault(), 300);
        new Twins(check, y -> {
            Check.type(y, "keep 33;sell 7" + " ".repeat(267));
        }).refused("feed", -1, y -> y.feed(0x6b656570, 1, 2, 3, 4));
    }

    private static void endWithin() {
        check.sentence("The TAPE has its first n bytes alone: n");
        SurplusLand x = new SurplusLand();
        check.due("none of none", x.end(0), 0);
        Check.type(x, "keep 1;keep 2;keep");
        check.due("all", x.end(18), 18);
        check.due("the first 13", x.end(13), 13);
        check.due("as many again", x.end(13), 13);
        check.due("CLAUSES", x.law(0, 0), 2);
        Check.type(x, "keep 1;keep");
        check.due("none", x.end(0), 0);
        check.due("TAPE", x.count(8), 0);
        check.due("nothing is read", x.law(0, 0), -4);
        check.due("at 0", x.fault(), 0);
    }

    private static void endRefused() {
        check.sentence("NONE, and nothing happens, if it has not so many, or n is below 0.");
        fresh.refused("end(1)", -1, x -> x.end(1));
        fresh.refused("end(-1)", -1, x -> x.end(-1));
        lively.refused("end(14) of 13", -1, x -> x.end(14));
        lively.refused("end(-1)", -1, x -> x.end(-1));
        lively.refused("end(300)", -1, x -> x.end(300));
        lively.refused("end(min)", -1, x -> x.end(Integer.MIN_VALUE));
        lively.refused("end(max)", -1, x -> x.end(Integer.MAX_VALUE));
        SurplusLand x = new SurplusLand();
        Check.type(x, "keep 1;keep 2");
        x.end(6);
        check.due("those that were cut off are no more", x.end(7), -1);
    }

    private static void lawInPlaceOfWhatWas() {
        check.sentence("The TAPE (empty then) is the LAW of the YEARS from .. to, in place of what was: how many CLAUSES.");
        SurplusLand x = new SurplusLand();
        check.due("one CLAUSE", Check.law(x, "keep 1", 0, 29), 1);
        check.due("TAPE", x.count(8), 0);
        check.due("two CLAUSES", Check.law(x, "free 1;keep 2", 0, 0), 2);
        check.due("three CLAUSES", Check.law(x, "keep 3;free 1;least 2", 2, 3), 3);
        check.due("one CLAUSE", Check.law(x, "keep 4", 29, 29), 1);
        check.due("one without keep", Check.law(x, "still 9", 5, 5), 1);
        for (int y = 0; y < 30; y++) {
            x.go(0);
            int part = y == 0 ? 2 : y == 2 || y == 3 ? 3 : y == 29 ? 4 : y == 5 ? 0 : 1;
            check.due("PART of YEAR " + y, x.count(7), part);
        }
        SurplusLand y = new SurplusLand();
        String longest = "keep 7" + "*1".repeat(147);
        for (int n = 0; n < 4; n++) {
            check.due("the longest TAPE, time " + n, Check.law(y, longest, 0, 29), 1);
        }
        y.go(0);
        check.due("its PART", y.count(7), 7);
        check.due("beside too", Check.beside(y, longest, 0), 190);
    }

    private static void lawRefused() {
        check.sentence("-2, and the TAPE stays: these are not YEARS 0 .. 29, not yet gone, in order");
        int[][] wrong = {{-1, 5}, {2, 30}, {30, 30}, {5, 4}, {1, 5}, {0, 29}, {29, 2}, {-1, -1}, {2, Integer.MAX_VALUE},
            {Integer.MIN_VALUE, 5}, {Integer.MAX_VALUE, Integer.MIN_VALUE}};
        for (int[] w : wrong) {
            lively.refused("law(" + w[0] + ", " + w[1] + ") in YEAR 2", -2, x -> x.law(w[0], w[1]));
        }
        ended.refused("law(29, 29) at the end", -2, x -> x.law(29, 29));
        ended.refused("law(30, 30) at the end", -2, x -> x.law(30, 30));
        SurplusLand x = new SurplusLand();
        Lands.lively(x);
        check.due("this YEAR alone", x.law(2, 2), 2);
        check.due("the last YEAR alone", Check.law(x, "keep 1", 29, 29), 1);
        new Twins(check, y -> Check.type(y, "keep")).refused("a FAULT is not looked for", -2, y -> y.law(1, 0));
    }

    private static void lawWithAFault() {
        check.sentence("-4: it has a FAULT (nothing but the TAPE changes).");
        Twins laws = new Twins(check, x -> {
            Lands.lively(x);
            x.end(0);
            Check.law(x, "keep", 2, 2);
        });
        laws.refused("an empty TAPE's place is another", -4, x -> {
            long answer = Check.law(x, "keep 99;sell 9;free 1;least 3;still", 2, 29);
            check.due("TAPE", x.count(8), 0);
            Check.law(x, "keep", 2, 2);
            return answer;
        });
        SurplusLand x = new SurplusLand();
        Check.law(x, "keep 5", 0, 29);
        check.due("empty", x.law(0, 29), -4);
        check.due("the last CLAUSE", Check.law(x, "keep 6;keep 7 if", 0, 29), -4);
        check.due("13 CLAUSES", Check.law(x, "keep 8" + ";free 1".repeat(12), 0, 29), -4);
        for (int y = 0; y < 30; y++) {
            x.go(0);
            check.due("PART of YEAR " + y, x.count(7), 5);
        }
    }

    private static void faultOfTheLatest() {
        check.sentence("Of the latest law() or beside() that read its TAPE, the place of its FAULT; NONE without one, and"
            + " ahead of any.");
        SurplusLand x = new SurplusLand();
        check.due("ahead of any", x.fault(), -1);
        check.due("refused", x.law(5, 4), -2);
        check.due("ahead of any that read", x.fault(), -1);
        check.due("refused", x.beside(5), -2);
        check.due("ahead of any that read", x.fault(), -1);
        check.due("empty", x.law(0, 0), -4);
        check.due("at 0", x.fault(), 0);
        check.due("a text", Check.law(x, "keep 1", 0, 0), 1);
        check.due("without one", x.fault(), -1);
        check.due("empty", x.beside(0), -4);
        check.due("at 0", x.fault(), 0);
        check.due("another", Check.beside(x, "keep 1;", 4), -4);
        check.due("at 7", x.fault(), 7);
        check.due("refused, with a text that has none", Check.law(x, "keep 1", -1, 0), -2);
        check.due("still at 7", x.fault(), 7);
        check.due("refused, with a text that has none", x.beside(-1), -2);
        check.due("still at 7", x.fault(), 7);
        check.due("asked twice", x.fault(), 7);
        check.due("a text beside", x.beside(0), 100);
        check.due("without one", x.fault(), -1);
    }

    private static void cropRefused() {
        check.sentence("This YEAR's CROP of a GROWER is so many (0 .. 500000): 0. -2: there is none such, another number.");
        lively.refused("crop(-1, 5)", -2, x -> x.crop(-1, 5));
        lively.refused("crop(3, 5)", -2, x -> x.crop(3, 5));
        lively.refused("crop(12, 5)", -2, x -> x.crop(12, 5));
        lively.refused("crop(0, -1)", -2, x -> x.crop(0, -1));
        lively.refused("crop(1, -1)", -2, x -> x.crop(1, -1));
        lively.refused("crop(0, 500001)", -2, x -> x.crop(0, 500001));
        lively.refused("crop(1, min)", -2, x -> x.crop(1, Integer.MIN_VALUE));
        fresh.refused("crop(0, 0)", -2, x -> x.crop(0, 0));
        SurplusLand x = Lands.quiet(7, 7);
        check.due("the least", x.crop(0, 0), 0);
        check.due("the most", x.crop(1, 500000), 0);
        x.go(9);
        check.due("the least", x.growerOf(0, 7), 0);
        check.due("the most", x.growerOf(1, 7), 500000);
        x.crop(0, 3);
        x.crop(0, 4);
        x.go(9);
        check.due("told anew", x.growerOf(0, 7), 4);
        ended.refused("no YEAR is left for it", 0, y -> y.crop(0, 5));
    }

    private static void cropsOfAll() {
        check.sentence("This YEAR's CROPS of all GROWERS, by numbers, are those of the SLOT's row, as many as there are"
            + " GROWERS: how many.");
        SurplusLand none = new SurplusLand();
        none.row(0, 3, 0);
        check.due("no GROWERS, no numbers", none.crops(0), 0);
        none.row(0, 3, 60);
        none.write(0, 0, -1);
        check.due("no GROWERS, numbers", none.crops(0), 0);
        SurplusLand x = new SurplusLand();
        Lands.peopled(x);
        x.row(3, 2, 12);
        for (int n = 0; n < 12; n++) {
            x.write(3, n, n == 11 ? 500000 : n);
        }
        check.due("just as many", x.crops(3), 12);
        x.go(100);
        for (int n = 0; n < 12; n++) {
            check.due("CROP of " + n, x.growerOf(n, 7), n == 11 ? 500000 : n);
        }
        SurplusLand y = Lands.quiet(1, 1);
        y.row(0, 0, 60);
        y.write(0, 0, 127);
        y.write(0, 2, -1);
        y.crop(1, 9);
        check.due("more than there are GROWERS", y.crops(0), 2);
        y.go(1);
        check.due("by numbers", y.growerOf(0, 7), 127);
        check.due("in place of what was told", y.growerOf(1, 7), 0);
    }

    private static void cropsRefused() {
        check.sentence("-2: there is no such SLOT; -5: it has nothing; -6: it has fewer; -4: one is not 0 .. 500000 (nothing"
            + " happens then).");
        lively.refused("crops(-1)", -2, x -> x.crops(-1));
        lively.refused("crops(4)", -2, x -> x.crops(4));
        lively.refused("crops(3)", -5, x -> x.crops(3));
        lively.refused("crops(1): 2 of 3", -6, x -> x.crops(1));
        long[] wrong = {-1, 500001, Long.MAX_VALUE, Long.MIN_VALUE, 1L << 32};
        for (long v : wrong) {
            for (int at = 0; at < 3; at++) {
                int i = at;
                new Twins(check, x -> {
                    Lands.lively(x);
                    x.row(3, 3, 3);
                    x.write(3, i, v);
                }).refused(v + " at " + i, -4, x -> x.crops(3));
            }
        }
        SurplusLand x = Lands.quiet(1);
        x.row(0, 0, 0);
        check.due("an empty row has fewer", x.crops(0), -6);
        x.row(0, 1, 1);
        x.write(0, 0, 32768);
        check.due("below 0 in its WIDTH", x.crops(0), -4);
        x.write(0, 0, 32767);
        check.due("the most of its WIDTH", x.crops(0), 1);
    }

    private static void goRefused() {
        check.sentence("-2: another yield; -9: 30 have gone; -3: fewer numbers are left for RECEIPTS than there are GROWERS.");
        lively.refused("go(-1)", -2, x -> x.go(-1));
        lively.refused("go(101)", -2, x -> x.go(101));
        lively.refused("go(min)", -2, x -> x.go(Integer.MIN_VALUE));
        ended.refused("the 31st", -9, x -> x.go(0));
        ended.refused("the 31st, another yield", -2, x -> x.go(101));
        crowded.refused("no numbers", -3, x -> x.go(0));
        crowded.refused("no numbers, another yield", -2, x -> x.go(-1));
    }

    private static void goEdges() {
        check.sentence("The YEAR goes by, with a yield (0 .. 100): the new YEAR.");
        SurplusLand x = Lands.quiet(1000);
        check.due("0", x.go(0), 1);
        check.due("CROP", x.growerOf(0, 7), 0);
        check.due("100", x.go(100), 2);
        check.due("CROP", x.growerOf(0, 7), 100000);
        for (int y = 3; y <= 30; y++) {
            check.due("YEAR", x.go(1), y);
        }
    }

    private static int goWithLeft(int growers, int left) {
        SurplusLand x = Lands.quiet(new int[growers]);
        Check.law(x, "keep 100", 0, 1);
        x.crop(0, 1000);
        x.go(0);
        for (int n = 1; n < 400 - left; n++) {
            x.split(0, 1);
        }
        for (int n = 0; n < growers; n++) {
            x.crop(n, 5);
        }
        int answer = x.go(0);
        check.due("RECEIPTS", x.count(2), answer < 0 ? 400 - left : 400 - left + growers);
        return answer;
    }

    private static void noNumbersLeft() {
        check.sentence("-3: fewer numbers are left for RECEIPTS than there are GROWERS.");
        check.due("0 for 1", goWithLeft(1, 0), -3);
        check.due("1 for 1", goWithLeft(1, 1), 2);
        check.due("1 for 2", goWithLeft(2, 1), -3);
        check.due("2 for 2", goWithLeft(2, 2), 2);
        check.due("11 for 12", goWithLeft(12, 11), -3);
        check.due("12 for 12", goWithLeft(12, 12), 2);
        check.due("13 for 12", goWithLeft(12, 13), 2);
    }

    private static void rightRefused() {
        check.sentence("-1000000: there is no such GROWER, YEAR that has gone, or number (0 .. 500000).");
        fresh.refused("right(0, 0, 0)", -1000000, x -> x.right(0, 0, 0));
        lively.refused("right(-1, 0, 5)", -1000000, x -> x.right(-1, 0, 5));
        lively.refused("right(3, 0, 5)", -1000000, x -> x.right(3, 0, 5));
        lively.refused("right(0, -1, 5)", -1000000, x -> x.right(0, -1, 5));
        lively.refused("right(0, 2, 5)", -1000000, x -> x.right(0, 2, 5));
        lively.refused("right(0, 29, 5)", -1000000, x -> x.right(0, 29, 5));
        lively.refused("right(0, 0, -1)", -1000000, x -> x.right(0, 0, -1));
        lively.refused("right(0, 0, 500001)", -1000000, x -> x.right(0, 0, 500001));
        lively.refused("right(min, max, min)", -1000000,
            x -> x.right(Integer.MIN_VALUE, Integer.MAX_VALUE, Integer.MIN_VALUE));
        ended.refused("right(0, 30, 5)", -1000000, x -> x.right(0, 30, 5));
        SurplusLand x = Lands.stored(100, 100);
        check.due("the first YEAR, the least number", x.right(0, 0, 0), -100);
        check.due("the last GROWER, the greatest number", x.right(1, 0, 500000), 499900);
    }
}
