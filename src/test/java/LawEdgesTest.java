/** The edges that Terms III names, sentence by sentence. */
public final class LawEdgesTest {
    private static final Check check = new Check();
    /* 2 to the power of 62. */
    private static final String GREAT = "65536*65536*65536*16384";
    private static final String MOST = "(" + GREAT + "-1+" + GREAT + ")";
    private static final String LEAST = "(0-" + GREAT + "-" + GREAT + ")";

    public static void main(String[] args) {
        textOrNone();
        blanks();
        longestTokens();
        everyByteBehindAWord();
        everyByteBehindANumber();
        numbers();
        emptyTexts();
        clausesEndWell();
        optionalConditions();
        loneNumbers();
        faultAtTheFirst();
        faultAtTheEnd();
        noToken();
        cannotStandThere();
        numberTooGreat();
        thirteenthClause();
        withinEightOthers();
        goAround();
        division();
        factsAtTheEdges();
        partIsCut();
        partWithout();
        soldIsCut();
        freedVillages();
        belowALeast();
        stills();
        check.finish();
    }

    private static void faultIs(String text, int place) {
        check.due("fault of '" + text + "'", Check.fault(text), place);
    }

    private static int part(String text) {
        SurplusLand x = new SurplusLand();
        Check.law(x, text, 0, 0);
        x.go(0);
        return x.count(7);
    }

    private static void holds(String condition) {
        check.due(condition, part("keep 1 if " + condition + ";keep 2"), 1);
    }

    private static void textOrNone() {
        check.sentence("THE LAW of a YEAR is a text, or none.");
        SurplusLand x = Lands.quiet(100, 100, 100);
        Check.law(x, "keep 50", 1, 1);
        Check.law(x, "keep 40;sell 9;free 0;free 1;least 200;still 2", 3, 3);
        x.go(1);
        check.due("none: PART", x.count(7), 0);
        check.due("none: KEPT", x.sum(1), 0);
        check.due("none: put right by PART 0", x.right(0, 0, 5), 0);
        x.go(1);
        check.due("a text: PART", x.count(7), 50);
        check.due("a text: KEPT", x.sum(1), 150);
        x.go(1);
        check.due("none: PART", x.count(7), 0);
        check.due("none: KEPT", x.sum(1), 150);
        x.go(1);
        check.due("a text: all are freed", x.sum(1), 150);
        check.due("a text: SOLD", x.sum(3), 9);
        for (int n = 0; n < 3; n++) {
            x.right(n, 1, 104);
        }
        x.go(1);
        check.due("none: nobody is freed", x.sum(1), 156);
        check.due("none: SOLD", x.sum(3), 9);
        check.due("none: STILL", x.sum(5), 0);
        Check.law(x, "sell 4", 5, 5);
        x.go(1);
        check.due("a text: SOLD", x.sum(3), 13);
        check.due("no keep: KEPT", x.sum(1), 156);
    }

    private static void blanks() {
        check.sentence("TOKENS, blanks (32, 10) aside");
        faultIs(" \n\n keep\n \n1 \n", -1);
        faultIs("keep 1\n;\nsell 1\nif\n1\n<\n2\nand\n(\n1\n)\n=\n1", -1);
        faultIs("keep\t1", 4);
        faultIs("keep\r1", 4);
        faultIs("keep\0" + "1", 4);
        faultIs("ke ep 1", 0);
        faultIs("keep 1 1", 7);
    }

    private static void longestTokens() {
        check.sentence("the longest that begin there: words (a .. z), numbers (digits), the signs");
        faultIs("keep1if1<2and2<3;sell2if3>crop", -1);
        faultIs("keepcrop", 0);
        faultIs("keep cropif 1<2", 5);
        faultIs("keep 1ifcrop<2", 6);
        faultIs("keep 1 if 1<2andcrop>2", 13);
        faultIs("keep pricea", 5);
        faultIs("keep (crop)if(store)<(old)and(price)>(want);free 1", -1);
        faultIs("zkeep 1", 0);
        faultIs("beep 1", 0);
        faultIs("keex 1", 0);
        faultIs("kee 1", 0);
        faultIs("keep 1 if 1<=2", 12);
        check.due("12 is one number", part("keep 12"), 12);
    }

    private static boolean isBlank(int b) {
        return b == ' ' || b == '\n';
    }

    private static void everyByteBehindAWord() {
        check.sentence("the longest that begin there: words (a .. z), numbers (digits), the signs + - * / ( ) < > = ; .");
        for (int b = 0; b < 256; b++) {
            int place = 4;
            if (isBlank(b) || (b >= '0' && b <= '9')) {
                place = -1;
            } else if (b >= 'a' && b <= 'z') {
                place = 0;
            } else if (b == '(') {
                place = 6;
            }
            check.due("byte " + b + " behind keep", Check.fault("keep" + (char) b + "1"), place);
        }
    }

    private static void everyByteBehindANumber() {
        check.sentence("the longest that begin there: words (a .. z), numbers (digits), the signs + - * / ( ) < > = ; .");
        for (int b = 0; b < 256; b++) {
            int place = 6;
            if (isBlank(b) || (b >= '0' && b <= '9')) {
                place = -1;
            } else if ("+-*/;".indexOf(b) >= 0) {
                place = 7;
            }
            check.due("byte " + b + " behind 1", Check.fault("keep 1" + (char) b), place);
        }
    }

    private static void numbers() {
        check.sentence("N: a number, 0 .. 999999 (of any digits).");
        faultIs("keep 0", -1);
        faultIs("keep 999999", -1);
        faultIs("keep 1000000", 5);
        faultIs("keep " + "0".repeat(295), -1);
        faultIs("keep " + "0".repeat(289) + "999999", -1);
        faultIs("keep " + "0".repeat(288) + "1000000", 5);
        faultIs("keep " + "9".repeat(295), 5);
        check.due("000000042", part("keep 000000042"), 42);
        check.due("00", part("keep 00"), 0);
        check.due("999999", part("keep 999999-999900"), 99);
    }

    private static void emptyTexts() {
        check.sentence("TEXT: CLAUSE { ; CLAUSE }.");
        faultIs("", 0);
        faultIs("\n \n", 3);
        faultIs(";", 0);
        faultIs("keep 1;", 7);
        faultIs("keep 1; ", 8);
        faultIs("keep 1;;keep 1", 7);
        faultIs("keep 1 keep 1", 7);
        faultIs("keep 1;keep 1", -1);
    }

    private static void clausesEndWell() {
        check.sentence("CLAUSE: keep SUM [if CONDS] | sell SUM [if CONDS] | free N | least N | still N.");
        String[] words = {"keep", "sell", "free", "least", "still"};
        for (String word : words) {
            faultIs(word, word.length());
            faultIs(word + ";", word.length());
            faultIs(word + " " + word, word.length() + 1);
            faultIs(word + " 1", -1);
        }
        String[] others = {"if", "and", "crop", "store", "old", "price", "want", "year", "x", "1", "(", "+"};
        for (String word : others) {
            faultIs(word + " 1", 0);
        }
    }

    private static void optionalConditions() {
        check.sentence("CONDS: COND { and COND }. COND: SUM (< or > or =) SUM.");
        faultIs("keep 1 if", 9);
        faultIs("keep 1 if ;", 10);
        faultIs("keep 1 if 1", 11);
        faultIs("keep 1 if 1<", 12);
        faultIs("keep 1 if 1<2", -1);
        faultIs("keep 1 if 1<2 and", 17);
        faultIs("keep 1 if 1<2 and 1", 19);
        faultIs("keep 1 if 1<2 and 1=", 20);
        faultIs("keep 1 if 1<2 and 1=1", -1);
        faultIs("keep 1 if 1<2=3", 13);
        faultIs("keep 1 if 1<2 if 1<2", 14);
        faultIs("keep 1 and 1<2", 7);
        faultIs("keep 1 if (1<2)", 12);
        faultIs("keep 1 if <2", 10);
        holds("1<2 and 2>1 and 3=3");
        String[] wrong = {"2<2", "2>2", "1=2", "2<1", "1>2", "2=1"};
        for (String w : wrong) {
            check.due(w + " alone", part("keep 1 if " + w + ";keep 2"), 2);
            check.due(w + " first", part("keep 1 if " + w + " and 1<2 and 1=1;keep 2"), 2);
            check.due(w + " second", part("keep 1 if 1<2 and " + w + " and 1=1;keep 2"), 2);
            check.due(w + " last", part("keep 1 if 1<2 and 1=1 and " + w + ";keep 2"), 2);
        }
    }

    private static void loneNumbers() {
        check.sentence("free N | least N | still N.");
        String[] words = {"free ", "least ", "still "};
        for (String word : words) {
            int at = word.length();
            faultIs(word + "0", -1);
            faultIs(word + "999999", -1);
            faultIs(word + "1000000", at);
            faultIs(word + "crop", at);
            faultIs(word + "(1)", at);
            faultIs(word + "1+1", at + 1);
            faultIs(word + "1 if 1<2", at + 2);
        }
    }

    private static void faultAtTheFirst() {
        check.sentence("FAULT: the place (its first byte; the end: the length) of the first TOKEN");
        faultIs("keep  wrong $ 1000000", 6);
        faultIs("keep $ 1000000 wrong", 5);
        faultIs("keep 1000000 $", 5);
        faultIs("keep 1 if wrong;$", 10);
        faultIs("\n\nkeeping 1", 2);
        faultIs("keep 1;  sold 3", 9);
    }

    private static void faultAtTheEnd() {
        check.sentence("the end: the length");
        faultIs("keep", 4);
        faultIs("keep ", 5);
        faultIs("keep" + " ".repeat(296), 300);
        faultIs("keep 1+", 7);
        faultIs("keep (", 6);
        faultIs("keep (1", 7);
        faultIs("keep (1+", 8);
        faultIs("keep ((1*", 9);
        faultIs("keep 1*(2+3 ", 12);
        faultIs("keep 1" + "+1".repeat(146) + "+", 299);
        faultIs("keep 1" + "+1".repeat(147), -1);
        faultIs("keep 01" + "+1".repeat(146) + "*", 300);
        faultIs(";".repeat(300), 0);
        faultIs("keep 1" + "+".repeat(294), 7);
    }

    private static void noToken() {
        check.sentence("of the first TOKEN that is none");
        faultIs("$", 0);
        faultIs("Keep 1", 0);
        faultIs("kEep 1", 0);
        faultIs("keep 1.5", 6);
        faultIs("keep #", 5);
        faultIs("keep 1 \u00ff", 7);
        faultIs("keep 1;\u0080", 7);
        faultIs("keep 1 if crop!0", 14);
        faultIs("keep crop_", 9);
    }

    private static void cannotStandThere() {
        check.sentence("can't stand there");
        faultIs("keep -1", 5);
        faultIs("keep +1", 5);
        faultIs("keep )", 5);
        faultIs("keep ()", 6);
        faultIs("keep (1))", 8);
        faultIs("keep 1)", 6);
        faultIs("keep 1(2)", 6);
        faultIs("keep (1 2)", 8);
        faultIs("keep 1++1", 7);
        faultIs("keep 1*/1", 7);
        faultIs("keep 1=1", 6);
        faultIs("keep keep", 5);
        faultIs("keep and", 5);
        faultIs("keep crop crop", 10);
        faultIs("keep (1;keep 2)", 7);
        faultIs("keep (;keep 2", 6);
        faultIs("keep (1+;keep 2", 8);
        faultIs("keep 1 if (2*)<3", 13);
        faultIs("keep 1 if 2<;keep 2", 12);
    }

    private static void numberTooGreat() {
        check.sentence("is a number above 999999");
        faultIs("keep 1+1000000", 7);
        faultIs("keep (1000000)", 6);
        faultIs("keep 1 if 1000000>1", 10);
        faultIs("keep 1 if 1>1000000", 12);
        faultIs("keep 4294967297", 5);
        faultIs("keep 18446744073709551617", 5);
        faultIs("keep 1+999999*999999", -1);
    }

    private static String clauses(int n) {
        String[] kinds = {"keep 1", "sell 1", "free 1", "least 1", "still 1"};
        StringBuilder out = new StringBuilder(kinds[0]);
        for (int i = 1; i < n; i++) {
            out.append(';').append(kinds[i % kinds.length]);
        }
        return out.toString();
    }

    private static void thirteenthClause() {
        check.sentence("begins a 13th CLAUSE");
        SurplusLand x = new SurplusLand();
        for (int n = 1; n <= 12; n++) {
            check.due(n + " CLAUSES", Check.law(x, clauses(n), 0, 0), n);
        }
        check.due("13", Check.law(x, clauses(13), 0, 0), -4);
        check.due("where it begins", x.fault(), clauses(12).length() + 1);
        faultIs(clauses(12) + " ;\n still 1", clauses(12).length() + 4);
        faultIs(clauses(12) + ";", clauses(12).length() + 1);
        faultIs(clauses(14), clauses(12).length() + 1);
        faultIs(clauses(11) + ";wrong;free 1", clauses(11).length() + 1);
        check.due("the twelfth counts", part("free 1;".repeat(11) + "keep 9"), 9);
    }

    private static void withinEightOthers() {
        check.sentence("or is a ( within 8 others.");
        String eight = "((((((((1))))))))";
        faultIs("keep " + eight, -1);
        faultIs("keep (" + eight + ")", 13);
        faultIs("keep " + "(".repeat(295), 13);
        faultIs("keep " + eight + "+" + eight + "*" + eight, -1);
        faultIs("keep 1 if " + eight + "<" + eight + " and " + eight + "=" + eight, -1);
        faultIs("keep 1 if (" + eight + ")<1", 18);
        faultIs("keep 1 if 1<(" + eight + ")", 20);
        faultIs("sell (" + eight + ")", 13);
        faultIs("keep ((((((((1)+(2))))))))", -1);
        faultIs("keep ((((((((1+(2)))))))))", 15);
        check.due("its value", part("keep 1+(2*(3+(4-(5-(6*(7-(8-(9-4)))))))+10)"), 63);
        String deep = "1+1*(".repeat(8) + "1+1*1" + ")".repeat(8);
        holds("1+1*1<" + deep + " and " + deep + "=10");
    }

    private static void goAround() {
        check.sentence("Values have 64 bits and go around");
        holds(MOST + ">0 and " + MOST + "+1<0");
        holds(MOST + "+1=" + LEAST);
        holds(LEAST + "<0 and " + LEAST + "-1>0");
        holds(LEAST + "-1=" + MOST);
        holds(GREAT + "*2=" + LEAST);
        holds(GREAT + "*4=0");
        holds(MOST + "*2=0-2");
        holds(LEAST + "<" + MOST + " and " + MOST + ">" + LEAST);
        holds("0-" + LEAST + "=" + LEAST);
    }

    private static void division() {
        check.sentence("/ is cut, by 0 it gives 0 (the least one by -1: itself).");
        holds("7/2=3 and (0-7)/2=0-3 and 7/(0-2)=0-3 and (0-7)/(0-2)=3");
        holds("1/2=0 and (0-1)/2=0");
        holds("7/0=0 and (0-7)/0=0 and 0/0=0");
        holds("7/(3-3)*5=0 and 5+7/(2-2)=5 and 7/0/0=0");
        holds(LEAST + "/(0-1)=" + LEAST);
        holds(LEAST + "/0=0 and " + LEAST + "/1=" + LEAST);
        holds(MOST + "/(0-1)=" + LEAST + "+1");
    }

    private static void factsAtTheEdges() {
        check.sentence("crop: the CROPS of all in this YEAR");
        SurplusLand both = Lands.quiet(10, 20);
        Check.law(both, "keep crop-20", 0, 29);
        both.crop(1, 51);
        both.go(2);
        check.due("20 and 51", both.count(7), 51);
        both.go(0);
        check.due("none in the next YEAR", both.count(7), 0);
        check.sentence("store: the STORE as the YEAR begins; old: its sacks of YEARS ahead of the last one");
        holds("crop=0 and store=0 and old=0 and price=100 and want=900 and year=0");
        SurplusLand x = Lands.quiet(10);
        Check.law(x, "keep 100", 0, 2);
        x.go(1);
        x.crop(0, 20);
        x.go(0);
        x.crop(0, 40);
        Check.law(x, "keep 30 if store=30 and old=10;keep 1", 2, 2);
        x.go(0);
        check.due("in YEAR 2", x.count(7), 30);
        Check.law(x, "keep 7 if store=42 and old=30 and year=3;keep 1", 3, 3);
        x.go(0);
        check.due("in YEAR 3", x.count(7), 7);
        x.redeem(0);
        Check.law(x, "keep 8 if store=32 and old=32;keep 1", 4, 4);
        x.go(0);
        check.due("in YEAR 4", x.count(7), 8);
    }

    private static void partIsCut() {
        check.sentence("PART: of the first keep whose CONDS hold, cut to 0 .. 100");
        int[] values = {0, 1, 99, 100, 101, 999999};
        for (int v : values) {
            check.due("keep " + v, part("keep " + v), Math.min(100, v));
        }
        check.due("-1", part("keep 0-1"), 0);
        check.due("the greatest", part("keep " + MOST), 100);
        check.due("the least", part("keep " + LEAST), 0);
        check.due("2 to the power of 32 and 5", part("keep 65536*65536+5"), 100);
        check.due("the first one, though it is cut", part("keep 0-1;keep 7"), 0);
        check.due("the first that holds", part("keep 3 if 2>2;keep 0 if 1=1;keep 7"), 0);
    }

    private static void partWithout() {
        check.sentence("cut to 0 .. 100; 0 without.");
        check.due("no keep", part("sell 5;free 3;least 2;still 1"), 0);
        check.due("none holds", part("keep 5 if 1<1;keep 5 if 1>1;keep 5 if 1=2"), 0);
    }

    /** What is sold in year 1 of a store of 30 that two growers have; 10 are kept anew. */
    private static long sold(String text) {
        SurplusLand x = Lands.stored(10, 20);
        Check.law(x, text + ";keep 100", 1, 1);
        x.crop(0, 10);
        x.go(0);
        check.due("the store after " + text, x.count(4), 40 - x.sum(3));
        return x.sum(3);
    }

    private static void soldIsCut() {
        check.sentence("SOLD: of the first sell likewise, cut to 0 .. the STORE as the YEAR begins.");
        int[] values = {0, 1, 29, 30, 31, 40, 999999};
        for (int v : values) {
            check.due("sell " + v, sold("sell " + v), Math.min(30, v));
        }
        check.due("-1", sold("sell 0-1"), 0);
        check.due("the greatest", sold("sell " + MOST), 30);
        check.due("the least", sold("sell " + LEAST), 0);
        check.due("2 to the power of 32 and 5", sold("sell 65536*65536+5"), 30);
        check.due("the first one, though it is cut", sold("sell 0-1;sell 5"), 0);
        check.due("the first that holds", sold("sell 4 if 2<2;sell 6 if store=30;sell 5"), 6);
        check.due("none holds", sold("sell 4 if 2<2"), 0);
        check.due("none", sold("free 7"), 0);
    }

    private static void freedVillages() {
        check.sentence("All free's VILLAGES are freed");
        for (int v = 0; v < 8; v++) {
            SurplusLand x = new SurplusLand();
            for (int n = 0; n < 8; n++) {
                x.grower(n, 10);
            }
            Check.law(x, "free " + v + ";keep 100;free 8;free 999999", 0, 0);
            x.go(1);
            for (int n = 0; n < 8; n++) {
                check.due("KEPT of " + n + " if " + v + " is freed", x.growerOf(n, 8), n == v ? 0 : 10);
            }
        }
        SurplusLand y = Lands.quiet(5, 6, 7);
        Check.law(y, "free 0;free 2;free 0;keep 100", 0, 0);
        y.go(1);
        check.due("two are freed", y.sum(1), 6);
    }

    /** By how many sacks more a crop of 100 more is put right: 0 for one who was freed. */
    private static int more(int crop, String text) {
        SurplusLand x = Lands.quiet(0);
        x.crop(0, crop);
        Check.law(x, "keep 100;" + text, 0, 0);
        x.go(0);
        return x.right(0, 0, crop + 100);
    }

    private static void belowALeast() {
        check.sentence("so is who has a CROP below some least.");
        check.due("none is below 0", more(0, "least 0"), 100);
        check.due("0 is below 1", more(0, "least 1"), 0);
        check.due("1 is not below 1", more(1, "least 1"), 100);
        check.due("one below", more(999, "least 1000"), 0);
        check.due("just so many", more(1000, "least 1000"), 100);
        check.due("some least, the first", more(500, "least 501;least 1"), 0);
        check.due("some least, the last", more(500, "least 1;least 501"), 0);
        check.due("no least", more(0, "still 5"), 100);
        check.due("the greatest least", more(499900, "least 999999"), 0);
    }

    /** What goes to the stills in year 4, of 10 sacks each of the years 0 to 3. */
    private static long stilled(String text) {
        SurplusLand x = Lands.quiet(10);
        Check.law(x, "keep 100", 0, 3);
        for (int y = 0; y < 4; y++) {
            x.go(1);
        }
        Check.law(x, "keep 100;" + text, 4, 4);
        x.go(1);
        return x.sum(5);
    }

    private static void stills() {
        check.sentence("STILL: the least number of the still's (none without).");
        check.due("0", stilled("still 0"), 40);
        check.due("1", stilled("still 1"), 30);
        check.due("3", stilled("still 3"), 10);
        check.due("4", stilled("still 4"), 0);
        check.due("999999", stilled("still 999999"), 0);
        check.due("the last is the least", stilled("still 9;still 3;still 2"), 20);
        check.due("the first is the least", stilled("still 2;still 3;still 9"), 20);
        check.due("the least is 0", stilled("still 3;still 0;still 2"), 40);
        check.due("none", stilled("free 7"), 0);
    }
}
