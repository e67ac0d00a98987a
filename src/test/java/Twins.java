import java.util.ArrayList;
import java.util.List;

/** Two lands led alike, one of which is asked a call that must change nothing: they stay alike, then and later. */
final class Twins {
    /** What makes a land as it is ahead of the call. */
    interface Lead {
        void on(SurplusLand x);
    }

    /** The call that is refused. */
    interface Call {
        long on(SurplusLand x);
    }

    /* A full store takes 400 calls to fill: less can be asked of it within 512. */
    private static final int MANY = 200;

    private final Check check;
    private final Lead lead;

    Twins(Check check, Lead lead) {
        this.check = check;
        this.lead = lead;
    }

    void refused(String name, long due, Call call) {
        SurplusLand asked = new SurplusLand();
        SurplusLand left = new SurplusLand();
        lead.on(asked);
        lead.on(left);
        check.due(name, call.on(asked), due);
        List<String> got = told(asked);
        List<String> want = told(left);
        String differs = "";
        for (int i = 0; i < want.size() && differs.isEmpty(); i++) {
            differs = got.get(i).equals(want.get(i)) ? "" : got.get(i) + " instead of " + want.get(i);
        }
        check.due("after " + name + " all is as before; " + differs, differs.isEmpty(), true);
    }

    private static List<String> told(SurplusLand x) {
        List<String> out = new ArrayList<>();
        int papers = x.count(2);
        visible(x, out, papers);
        hidden(x, out);
        if (papers < MANY) {
            visible(x, out, papers);
        }
        return out;
    }

    private static void visible(SurplusLand x, List<String> out, int papers) {
        for (int what = 0; what < 11; what++) {
            out.add("count(" + what + ") " + x.count(what));
        }
        for (int what = 0; what < 8; what++) {
            out.add("sum(" + what + ") " + x.sum(what));
        }
        for (int holder = 0; holder < 15; holder++) {
            out.add("money(" + holder + ") " + x.money(holder));
        }
        for (int n = 0; n < 5 && papers < MANY; n++) {
            for (int what = 0; what < 9; what++) {
                out.add("growerOf(" + n + ", " + what + ") " + x.growerOf(n, what));
            }
        }
        for (int n = 0; n < (papers < MANY ? 6 : 1); n++) {
            for (int what = 0; what < 7; what++) {
                out.add("receipt(" + n + ", " + what + ") " + x.receipt(n, what));
            }
            out.add("owed(" + n + ", 1) " + x.owed(n, 1));
            out.add("owed(" + n + ", 2) " + x.owed(n, 2));
        }
        out.add("fault() " + x.fault());
    }

    /** What can't be asked for shows in what happens next: tape, laws, crops told, rows, banks, terms. */
    private static void hidden(SurplusLand x, List<String> out) {
        out.add("go(3) " + x.go(3) + " price " + x.count(3) + " free " + x.count(5) + " store " + x.count(4));
        out.add("law() " + x.law(x.count(0), 29) + " fault " + x.fault());
        for (int slot = 0; slot < 4; slot++) {
            out.add("crops(" + slot + ") " + x.crops(slot) + " go " + x.go(1) + " crops " + x.sum(0));
            out.add("written " + x.write(slot, 3, 9) + " pasted " + x.paste(slot, 0, 0, 0, 1));
        }
        for (int bank = 0; bank < 3; bank++) {
            out.add("pledge(" + bank + ") " + x.pledge(bank, bank, 2) + " owed " + x.owed(bank, 1));
        }
        out.add("grower(1, 1) " + x.grower(1, 1) + " split(1, 1) " + x.split(1, 1));
        out.add("beside(1) " + Check.beside(x, "keep 50;sell 5", 1));
    }
}
