/** Promises 27 to 30: row, tear, write, paste. What a row has is seen through crops() and go(). */
public final class RowTest {
    private static final Check check = new Check();

    public static void main(String[] args) {
        row();
        tear();
        write();
        cutToWidth();
        pasteRefused();
        paste();
        check.finish();
    }

    /** The numbers of a row of one to twelve, as crops of so many growers; -4 if one is no crop. */
    private static String seen(SurplusLand x, int slot) {
        if (x.crops(slot) < 0) {
            return String.valueOf(x.crops(slot));
        }
        x.go(0);
        StringBuilder out = new StringBuilder();
        for (int n = 0; n < x.count(1); n++) {
            out.append(n == 0 ? "" : " ").append(x.growerOf(n, 7));
        }
        return out.toString();
    }

    private static void isSeen(String what, SurplusLand x, int slot, String due) {
        String got = seen(x, slot);
        check.due(what + ": '" + got + "' is '" + due + "'", got.equals(due), true);
    }

    private static SurplusLand withGrowers(int n) {
        SurplusLand x = new SurplusLand();
        for (int i = 0; i < n; i++) {
            x.grower(0, 1);
        }
        return x;
    }

    private static void row() {
        SurplusLand x = withGrowers(3);
        check.due("row(-1, 0, 1)", x.row(-1, 0, 1), -2);
        check.due("row(4, 0, 1)", x.row(4, 0, 1), -2);
        check.due("row(0, -1, 1)", x.row(0, -1, 1), -2);
        check.due("row(0, 4, 1)", x.row(0, 4, 1), -2);
        check.due("row(0, 0, 61)", x.row(0, 0, 61), -2);
        check.due("row(0, 0, -1)", x.row(0, 0, -1), -3);
        check.due("row(4, 0, -1)", x.row(4, 0, -1), -2);
        check.due("row(0, 4, -1)", x.row(0, 4, -1), -2);
        check.due("row(0, 0, min)", x.row(0, 0, Integer.MIN_VALUE), -3);
        check.due("no row came", x.count(10), 0);
        check.due("row(0, 0, 60)", x.row(0, 0, 60), 0);
        check.due("row(1, 1, 0)", x.row(1, 1, 0), 0);
        check.due("row(2, 2, 3)", x.row(2, 2, 3), 0);
        check.due("row(3, 3, 3)", x.row(3, 3, 3), 0);
        check.due("four rows", x.count(10), 4);
        isSeen("all 0", x, 2, "0 0 0");
        x.write(2, 1, 9);
        check.due("the slot stays", x.row(2, 0, -1), -3);
        check.due("the slot stays", x.row(2, 0, 61), -2);
        isSeen("the slot stays", x, 2, "0 9 0");
        check.due("in place of another", x.row(2, 2, 4), 0);
        isSeen("all 0 again", x, 2, "0 0 0");
        check.due("number 59", x.write(0, 59, 1), 0);
        check.due("number 60", x.write(0, 60, 1), -6);
        check.due("no number", x.write(1, 0, 1), -6);
    }

    private static void tear() {
        SurplusLand x = new SurplusLand();
        check.due("tear(-1)", x.tear(-1), false);
        check.due("tear(4)", x.tear(4), false);
        check.due("nothing", x.tear(3), false);
        x.row(3, 1, 0);
        check.due("an empty row is a row", x.tear(3), true);
        check.due("nothing", x.tear(3), false);
        check.due("nothing", x.count(10), 0);
        check.due("nothing", x.write(3, 0, 1), -5);
        check.due("nothing", x.crops(3), -5);
        x.row(3, 1, 2);
        check.due("again", x.tear(3), true);
    }

    private static void write() {
        SurplusLand x = withGrowers(2);
        check.due("write(-1, 0, 1)", x.write(-1, 0, 1), -2);
        check.due("write(4, 0, 1)", x.write(4, 0, 1), -2);
        check.due("write(0, 0, 1)", x.write(0, 0, 1), -5);
        x.row(0, 3, 2);
        check.due("write(0, -1, 1)", x.write(0, -1, 1), -6);
        check.due("write(0, 2, 1)", x.write(0, 2, 1), -6);
        check.due("write(0, 0, 11)", x.write(0, 0, 11), 0);
        check.due("write(0, 1, 12)", x.write(0, 1, 12), 0);
        isSeen("11 12", x, 0, "11 12");
        x.row(1, 3, 2);
        isSeen("the slot beside is not touched", x, 1, "0 0");
    }

    private static void cutToWidth() {
        SurplusLand x = withGrowers(1);
        long[] bits = {8, 16, 32};
        for (int width = 0; width < 3; width++) {
            x.row(width, width, 1);
            long around = 1L << bits[width];
            x.write(width, 0, around * 5 + 100);
            isSeen("around " + width, x, width, "100");
            x.write(width, 0, around / 2);
            isSeen("the highest bit is below 0 " + width, x, width, "-4");
            x.write(width, 0, Math.min(500000, around / 2 - 1));
            isSeen("the most " + width, x, width, String.valueOf(Math.min(500000, around / 2 - 1)));
        }
        x.row(3, 3, 1);
        x.write(3, 0, (1L << 32) + 100);
        isSeen("eight bytes are not cut", x, 3, "-4");
        x.write(3, 0, Long.MIN_VALUE);
        isSeen("the least", x, 3, "-4");
    }

    private static void pasteRefused() {
        SurplusLand x = new SurplusLand();
        check.due("paste(-1, ..)", x.paste(-1, 0, 0, 0, 0), -2);
        check.due("paste(4, ..)", x.paste(4, 0, 0, 0, 0), -2);
        check.due("paste(.. -1 ..)", x.paste(0, 0, -1, 0, 0), -2);
        check.due("paste(.. 4 ..)", x.paste(0, 0, 4, 0, 0), -2);
        check.due("nothing", x.paste(0, 0, 1, 0, 0), -5);
        x.row(0, 1, 5);
        check.due("one has nothing", x.paste(0, 0, 1, 0, 0), -5);
        check.due("one has nothing", x.paste(1, 0, 0, 0, 0), -5);
        x.row(1, 2, 5);
        check.due("not of one width", x.paste(0, 0, 1, 0, 0), -7);
        check.due("width comes first", x.paste(0, -1, 1, 0, 0), -7);
        x.row(1, 1, 4);
        check.due("a place below 0", x.paste(0, -1, 1, 0, 1), -6);
        check.due("a place below 0", x.paste(0, 0, 1, -1, 1), -6);
        check.due("n below 0", x.paste(0, 0, 1, 0, -1), -6);
        check.due("beyond the first", x.paste(1, 2, 0, 0, 3), -6);
        check.due("beyond the second", x.paste(0, 0, 1, 0, 5), -6);
        check.due("beyond the second", x.paste(0, 0, 1, 2, 3), -6);
        check.due("far beyond", x.paste(0, Integer.MAX_VALUE, 1, 0, Integer.MAX_VALUE), -6);
        check.due("far beyond", x.paste(0, 0, 1, Integer.MAX_VALUE, 1), -6);
        check.due("none, from the end", x.paste(0, 5, 1, 4, 0), 0);
        check.due("none, from beyond the end", x.paste(0, 6, 1, 4, 0), -6);
        check.due("all", x.paste(1, 0, 0, 1, 4), 0);
    }

    private static void paste() {
        SurplusLand x = withGrowers(5);
        x.row(0, 2, 5);
        for (int i = 0; i < 5; i++) {
            x.write(0, i, i + 1);
        }
        x.row(3, 2, 6);
        check.due("to another", x.paste(0, 1, 3, 2, 3), 0);
        isSeen("to another", x, 3, "0 0 2 3 4");
        isSeen("the first stays", x, 0, "1 2 3 4 5");
        check.due("refused", x.paste(0, 0, 3, 2, 5), -6);
        isSeen("nothing happened", x, 3, "0 0 2 3 4");
        check.due("onto itself, up", x.paste(0, 0, 0, 1, 4), 0);
        isSeen("as they were", x, 0, "1 1 2 3 4");
        check.due("onto itself, down", x.paste(0, 1, 0, 0, 4), 0);
        isSeen("as they were", x, 0, "1 2 3 4 4");
        check.due("the same place", x.paste(0, 1, 0, 1, 2), 0);
        isSeen("the same", x, 0, "1 2 3 4 4");
        check.due("from the last slot", x.paste(3, 2, 0, 0, 4), 0);
        isSeen("from the last slot", x, 0, "2 3 4 0 4");
    }
}
