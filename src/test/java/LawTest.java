/** Promises 5 to 8, and the texts of III: feed, end, law, fault. */
public final class LawTest {
    private static final Check check = new Check();

    public static void main(String[] args) {
        feedAndEnd();
        lawYears();
        tapeAfterLaw();
        faults();
        clauseLimit();
        depthLimit();
        sums();
        conditions();
        facts();
        soldByLaw();
        freedAndStill();
        nothingOfTheYearBefore();
        check.finish();
    }

    private static void feedAndEnd() {
        SurplusLand x = new SurplusLand();
        for (int n = 1; n <= 15; n++) {
            check.due("feed " + n, x.feed(0x6b656570, 0x20313b20, 0x20202020, 0x20202020, 0x20202020), 20 * n);
        }
        check.due("feed beyond 300", x.feed(0, 0, 0, 0, 0), -1);
        check.due("none came", x.count(8), 300);
        check.due("end(301)", x.end(301), -1);
        check.due("end(300)", x.end(300), 300);
        check.due("end(281)", x.end(281), 281);
        check.due("feed to 301", x.feed(0, 0, 0, 0, 0), -1);
        check.due("end(280)", x.end(280), 280);
        check.due("feed to 300", x.feed(0, 0, 0, 0, 0), 300);
        check.due("end(-1)", x.end(-1), -1);
        check.due("end(6)", x.end(6), 6);
        check.due("end(7)", x.end(7), -1);
        check.due("end(min)", x.end(Integer.MIN_VALUE), -1);
        check.due("count(8)", x.count(8), 6);
        check.due("keep 1", x.law(0, 0), 1);
        check.due("end(0)", x.end(0), 0);
        x.feed(0x6b656570, 0x20310000, 0, 0, 0);
        x.end(5);
        x.feed(0x323b7374, 0x696c6c20, 0x33202020, 0x20202020, 0x20200a0a);
        check.due("bytes come behind the tape, highest first", x.law(0, 0), 2);
    }

    private static void lawYears() {
        SurplusLand x = new SurplusLand();
        check.due("law(-1, 0)", Check.law(x, "keep 5", -1, 0), -2);
        check.due("law(0, 30)", x.law(0, 30), -2);
        check.due("law(2, 1)", x.law(2, 1), -2);
        check.due("law(30, 30)", x.law(30, 30), -2);
        check.due("law(min, max)", x.law(Integer.MIN_VALUE, Integer.MAX_VALUE), -2);
        check.due("the tape stays", x.count(8), 6);
        check.due("law(0, 29)", x.law(0, 29), 1);
        Check.law(x, "keep 6", 1, 2);
        int[] parts = {5, 6, 6, 5};
        for (int y = 0; y < 4; y++) {
            x.go(1);
            check.due("part of year " + y, x.count(7), parts[y]);
        }
        check.due("a year that has gone", Check.law(x, "keep 7", 3, 5), -2);
        check.due("this year", x.law(4, 4), 1);
        x.go(0);
        check.due("part of this year", x.count(7), 7);
        for (int y = 5; y < 29; y++) {
            x.go(0);
        }
        check.due("the last year", Check.law(x, "keep 8", 29, 29), 1);
        x.go(0);
        check.due("part of the last year", x.count(7), 8);
        check.due("all years have gone", Check.law(x, "keep 8", 29, 29), -2);
        check.due("no year 30", x.law(30, 30), -2);
    }

    private static void tapeAfterLaw() {
        SurplusLand x = new SurplusLand();
        check.due("fault() ahead of any", x.fault(), -1);
        check.due("keep", Check.law(x, "keep", 0, 29), -4);
        check.due("the tape is empty", x.count(8), 0);
        check.due("fault()", x.fault(), 4);
        check.due("-2 reads nothing", Check.law(x, "keep 5", 3, 2), -2);
        check.due("fault() stays", x.fault(), 4);
        check.due("beside(5) reads nothing", x.beside(5), -2);
        check.due("fault() stays", x.fault(), 4);
        check.due("keep 5", x.law(0, 29), 1);
        check.due("the tape is empty", x.count(8), 0);
        check.due("fault() is gone", x.fault(), -1);
        check.due("an empty tape", x.law(0, 29), -4);
        check.due("its fault", x.fault(), 0);
        x.go(0);
        check.due("a fault changes no law", x.count(7), 5);
        check.due("beside reads too", Check.beside(x, "keep 5;free", 0), -4);
        check.due("its fault", x.fault(), 11);
        check.due("its tape is empty", x.count(8), 0);
        check.due("beside without fault", Check.beside(x, "keep 5", 0), 190);
        check.due("fault() is gone", x.fault(), -1);
    }

    private static void faults() {
        faultIs("", 0);
        faultIs(" \n ", 3);
        faultIs("keep 1", -1);
        faultIs("keep1", -1);
        faultIs("\nkeep\n1\n", -1);
        faultIs("keep 1if 1<2and 2<3;sell 3if 4>crop", -1);
        faultIs("keep\t1", 4);
        faultIs("keep 1 ", -1);
        faultIs("keep   ", 7);
        faultIs("keep 1;", 7);
        faultIs("keep 1; ", 8);
        faultIs("keep 1;;", 7);
        faultIs(";keep 1", 0);
        faultIs("keeps 1", 0);
        faultIs("Keep 1", 0);
        faultIs("kee", 0);
        faultIs("xeep 1", 0);
        faultIs("keepz 1", 0);
        faultIs("zkeep 1", 0);
        faultIs("a", 0);
        faultIs(";".repeat(300), 0);
        faultIs("keep " + "(".repeat(295), 13);
        faultIs("keep 1" + "+1".repeat(147), -1);
        faultIs("keep 1" + "*1".repeat(146) + "*", 299);
        faultIs("crop", 0);
        faultIs("12", 0);
        faultIs("if", 0);
        faultIs("keep -1", 5);
        faultIs("keep +1", 5);
        faultIs("keep 1+", 7);
        faultIs("keep 1+;", 7);
        faultIs("keep 1 1", 7);
        faultIs("keep 1 crop", 7);
        faultIs("keep 1*/2", 7);
        faultIs("keep ()", 6);
        faultIs("keep (1", 7);
        faultIs("keep (1;", 7);
        faultIs("keep (1<2)", 7);
        faultIs("keep 1)", 6);
        faultIs("keep 1<2", 6);
        faultIs("keep keep", 5);
        faultIs("keep if", 5);
        faultIs("keep x", 5);
        faultIs("keep crop x", 10);
        faultIs("keep 1 if", 9);
        faultIs("keep 1 if 1", 11);
        faultIs("keep 1 if 1;", 11);
        faultIs("keep 1 if 1)", 11);
        faultIs("keep 1 if (1<2)", 12);
        faultIs("keep 1 if 1<", 12);
        faultIs("keep 1 if 1<=2", 12);
        faultIs("keep 1 if 1<2<3", 13);
        faultIs("keep 1 if 1<2 and", 17);
        faultIs("keep 1 if 1<2 if 1<2", 14);
        faultIs("keep 1 if 1<2 and 1", 19);
        faultIs("keep 1 and 1<2", 7);
        faultIs("keep 1 if and", 10);
        faultIs("free 1 if 1<2", 7);
        faultIs("least 1 if 1<2", 8);
        faultIs("still 1 if 1<2", 8);
        faultIs("free 1+1", 6);
        faultIs("least 1+1", 7);
        faultIs("still 1*1", 7);
        faultIs("least (1)", 6);
        faultIs("still year", 6);
        faultIs("free crop", 5);
        faultIs("free (1)", 5);
        faultIs("free", 4);
        faultIs("least x", 6);
        faultIs("still", 5);
        faultIs("free 999999;least 999999;still 999999", -1);
        faultIs("free 1000000", 5);
        faultIs("least 1000000", 6);
        faultIs("still 1000000", 6);
        faultIs("keep 999999", -1);
        faultIs("keep 1000000", 5);
        faultIs("keep 00000000000000000000000000000000999999", -1);
        faultIs("keep 00000000000000000000000000000001000000", 5);
        faultIs("keep 4294967296", 5);
        faultIs("keep 18446744073709551616", 5);
        faultIs("keep 1.5", 6);
        faultIs("keep 1_", 6);
        faultIs("keep 1\u00e9", 6);
        faultIs("keep 1\0", 6);
        faultIs("keep 1;$", 7);
        faultIs("keep $ 1000000", 5);
        faultIs("keep 1 if store=old and price>want and year<3;sell old/2 if crop>store;free 3;least 9;still 2", -1);
    }

    private static void faultIs(String text, int place) {
        check.due("fault of '" + text + "'", Check.fault(text), place);
    }

    private static void clauseLimit() {
        StringBuilder twelve = new StringBuilder("free 1");
        for (int n = 1; n < 12; n++) {
            twelve.append(";free 1");
        }
        SurplusLand x = new SurplusLand();
        check.due("twelve clauses", Check.law(x, twelve.toString(), 0, 0), 12);
        check.due("the thirteenth", Check.fault(twelve + "; keep 1"), twelve.length() + 2);
        check.due("a thirteenth that is none", Check.fault(twelve + ";"), twelve.length() + 1);
    }

    private static void depthLimit() {
        check.due("eight", Check.fault("keep ((((((((1))))))))"), -1);
        check.due("nine", Check.fault("keep (((((((((1)))))))))"), 13);
        check.due("eight in a row", Check.fault("keep (1)+(1)+(1)+(1)+(1)+(1)+(1)+(1)+(1)+(1)"), -1);
        check.due("nine in a condition", Check.fault("keep 1 if 1<1+((((((((1*(2)))))))))"), 24);
        check.due("eight in a condition", Check.fault("keep 1 if ((((((((1))))))))<((((((((2))))))))"), -1);
        check.due("nine in a condition", Check.fault("keep 1 if (((((((((1)))))))))<2"), 18);
        check.due("a deep one's value", part("keep 1+(2*(3+(4*(5-(6-(7-(8-(9-1))))))))", 0), 55);
    }

    private static void sums() {
        check.due("7", part("keep 7", 0), 7);
        check.due("cut to 100", part("keep 101", 0), 100);
        check.due("cut to 0", part("keep 0-1", 0), 0);
        check.due("from the left", part("keep 9-3-2", 0), 4);
        check.due("from the left", part("keep 80/4/2*3", 0), 30);
        check.due("* ahead of +", part("keep 2+3*4", 0), 14);
        check.due("* ahead of -", part("keep 20-2*4-6/2", 0), 9);
        check.due("brackets", part("keep (2+3)*4", 0), 20);
        check.due("/ is cut towards 0", part("keep 10+(0-7)/2", 0), 7);
        check.due("/ by 0", part("keep 5+9/0", 0), 5);
        check.due("/ by 0 of a sum", part("keep 5+9/(3-3)", 0), 5);
        check.due("64 bits go around", part("keep 65536*65536*65536*65536+3", 0), 3);
        String least = "(0-2*65536*65536*65536*16384)";
        check.due("the least one is below 0", part("keep 8 if " + least + "<0", 0), 8);
        check.due("the least one by -1", part("keep 8 if " + least + "/(0-1)=" + least, 0), 8);
        check.due("the least one less 1", part("keep 8 if " + least + "-1>0", 0), 8);
        check.due("the first keep", part("keep 3;keep 4", 0), 3);
        check.due("the first keep, though cut", part("keep 0-3;keep 4", 0), 0);
        check.due("no keep", part("free 3", 0), 0);
    }

    private static int part(String text, int acres) {
        SurplusLand x = new SurplusLand();
        x.grower(0, acres);
        Check.law(x, text, 0, 29);
        x.go(1);
        return x.count(7);
    }

    private static void conditions() {
        check.due("<", part("keep 1 if 1<2;keep 2", 0), 1);
        check.due("not <", part("keep 1 if 2<2;keep 2", 0), 2);
        check.due(">", part("keep 1 if 3>2;keep 2", 0), 1);
        check.due("not >", part("keep 1 if 2>2;keep 2", 0), 2);
        check.due("=", part("keep 1 if 2=2;keep 2", 0), 1);
        check.due("not =", part("keep 1 if 1=2;keep 2", 0), 2);
        check.due("and", part("keep 1 if 1<2 and 2<3 and 3<4;keep 2", 0), 1);
        check.due("and: first", part("keep 1 if 2<2 and 2<3 and 3<4;keep 2", 0), 2);
        check.due("and: second", part("keep 1 if 1<2 and 3<3 and 3<4;keep 2", 0), 2);
        check.due("and: third", part("keep 1 if 1<2 and 2<3 and 4<4;keep 2", 0), 2);
        check.due("sums", part("keep 1 if 2*3-1>10/2-1;keep 2", 0), 1);
        check.due("none holds", part("keep 1 if 1>2;keep 2 if 1>2", 0), 0);
        check.due("below 0", part("keep 1 if 0-5<0-4;keep 2", 0), 1);
    }

    private static void facts() {
        check.due("crop", part("keep crop", 42), 42);
        check.due("price", part("keep price-50", 0), 50);
        check.due("want", part("keep want/20", 0), 45);
        SurplusLand x = new SurplusLand();
        x.terms(0, 0, 0, 0, 10000, 0, 0);
        x.grower(0, 10);
        x.grower(1, 20);
        Check.law(x, "keep 50", 0, 0);
        Check.law(x, "keep year*10+store/15+old", 1, 1);
        Check.law(x, "keep old+year", 2, 2);
        Check.law(x, "keep store if old=crop*3/2", 3, 3);
        x.go(1);
        x.go(1);
        check.due("year, store, no old of the last year", x.count(7), 11);
        check.due("kept 1 and 2", x.count(4), 15 + 1 + 2);
        x.go(1);
        check.due("old: ahead of the last year", x.count(7), 17);
        check.due("kept with the rests", x.count(4), 18 + 1 + 3);
        check.due("rest of 0", x.growerOf(0, 6), 10 + 70);
        x.go(1);
        check.due("old does not hold", x.count(7), 0);
    }

    private static void soldByLaw() {
        check.due("sell", sold("sell 7"), 7);
        check.due("the first sell", sold("sell 7;sell 8"), 7);
        check.due("whose conditions hold", sold("sell 7 if year>1;sell 8"), 8);
        check.due("cut to 0", sold("sell 0-1;sell 5"), 0);
        check.due("cut to the store", sold("sell 31"), 30);
        check.due("no sell", sold("keep 5"), 0);
    }

    /** What is sold of a store of 30 in year 1. */
    private static long sold(String text) {
        SurplusLand x = new SurplusLand();
        x.grower(0, 30);
        Check.law(x, "keep 100", 0, 0);
        Check.law(x, text, 1, 1);
        x.go(1);
        x.go(1);
        return x.sum(3);
    }

    private static void nothingOfTheYearBefore() {
        SurplusLand x = new SurplusLand();
        x.terms(0, 0, 0, 0, 10000, 0, 0);
        x.grower(0, 10);
        x.grower(7, 10);
        Check.law(x, "keep 50;free 0;free 7", 0, 0);
        Check.law(x, "keep 50", 1, 1);
        Check.law(x, "keep 50;least 11;still 0;sell 3", 2, 2);
        Check.law(x, "free 1", 3, 3);
        x.go(1);
        check.due("villages 0 and 7 are freed", x.sum(1), 0);
        x.go(1);
        check.due("not in the next year", x.sum(1), 10);
        x.go(1);
        check.due("freed by the least", x.sum(1), 10);
        check.due("sold", x.sum(3), 3);
        check.due("stilled", x.sum(5), 7);
        x.right(0, 1, 12);
        x.right(1, 1, 16);
        x.go(1);
        check.due("no least in the next year: the rests are kept", x.sum(1), 14);
        check.due("no sell, no part", x.sum(3), 3);
        check.due("no part", x.count(7), 0);
        x.go(1);
        check.due("no still", x.sum(5), 7);
    }

    private static void freedAndStill() {
        SurplusLand x = new SurplusLand();
        x.terms(0, 0, 0, 0, 10000, 0, 0);
        for (int v = 0; v < 8; v++) {
            x.grower(v, 10 + v);
        }
        Check.law(x, "keep 100;free 2;free 5;free 8;free 999999;least 12;least 11;least 3", 0, 0);
        x.go(1);
        long[] kept = {0, 0, 0, 13, 14, 0, 16, 17};
        for (int v = 0; v < 8; v++) {
            check.due("kept of village " + v, x.growerOf(v, 8), kept[v]);
        }
        check.due("the least is not below itself", keptWithLeast(10), 10);
        check.due("one below the least", keptWithLeast(9), 0);
        SurplusLand y = new SurplusLand();
        y.terms(0, 0, 0, 0, 10000, 0, 0);
        y.grower(0, 10);
        Check.law(y, "keep 100", 0, 2);
        Check.law(y, "still 5;still 1;still 2", 3, 3);
        for (int n = 0; n < 4; n++) {
            y.go(1);
        }
        check.due("the least still", y.sum(5), 20);
        check.due("a year back stays", y.receipt(2, 1), 10);
    }

    private static int keptWithLeast(int sacks) {
        SurplusLand x = new SurplusLand();
        x.grower(0, 10);
        x.crop(0, sacks);
        Check.law(x, "keep 100;least 10", 0, 0);
        x.go(1);
        return x.growerOf(0, 8);
    }
}
