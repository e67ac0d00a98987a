import java.util.Random;

/** Texts of laws by the grammar, some of them spoilt. */
final class RandomText {
    private static final String[] FACTS = {"crop", "store", "old", "price", "want", "year"};
    private static final String[] BITS = {"keep", "if", "and", "crop", "7", "1000000", "(", ")", "<", ";", "+", "x",
        " ", "\n", "K", "still", "000000000012", "\u00ff", "\t", "/"};

    private final Random dice;

    RandomText(Random dice) {
        this.dice = dice;
    }

    String text() {
        StringBuilder out = new StringBuilder();
        int clauses = dice.nextInt(12) == 0 ? 13 : 1 + dice.nextInt(5);
        for (int n = 0; n < clauses; n++) {
            out.append(n == 0 ? "" : ";").append(clause());
        }
        if (dice.nextInt(6) == 0) {
            spoil(out);
        }
        return out.length() <= 300 ? out.toString() : out.substring(0, dice.nextInt(300));
    }

    private void spoil(StringBuilder out) {
        int at = dice.nextInt(out.length() + 1);
        if (dice.nextBoolean()) {
            out.insert(at, BITS[dice.nextInt(BITS.length)]);
        } else {
            out.delete(at, Math.min(out.length(), at + 1 + dice.nextInt(4)));
        }
    }

    private String blank() {
        int n = dice.nextInt(6);
        return n == 0 ? "\n" : n == 1 ? "  " : " ";
    }

    private String clause() {
        switch (dice.nextInt(8)) {
            case 0: return "free" + blank() + dice.nextInt(9);
            case 1: return "least" + blank() + dice.nextInt(dice.nextBoolean() ? 100 : 1000000);
            case 2: return "still" + blank() + dice.nextInt(5);
            case 3: case 4: return "sell" + blank() + sum(0) + conditions();
            case 5: return "keep" + blank() + dice.nextInt(101) + conditions();
            default: return "keep" + blank() + sum(0) + conditions();
        }
    }

    private String conditions() {
        StringBuilder out = new StringBuilder();
        int n = dice.nextInt(3) == 0 ? 1 + dice.nextInt(2) : 0;
        for (int i = 0; i < n; i++) {
            out.append(blank()).append(i == 0 ? "if" : "and").append(blank());
            out.append(sum(1)).append("<>=".charAt(dice.nextInt(3))).append(sum(1));
        }
        return out.toString();
    }

    private String sum(int depth) {
        StringBuilder out = new StringBuilder(term(depth));
        for (int n = dice.nextInt(6); n > 4 - dice.nextInt(2); n--) {
            out.append("+-".charAt(dice.nextInt(2))).append(term(depth));
        }
        return out.toString();
    }

    private String term(int depth) {
        StringBuilder out = new StringBuilder(factor(depth));
        for (int n = dice.nextInt(6); n > 4 - dice.nextInt(2); n--) {
            out.append("*/".charAt(dice.nextInt(2))).append(factor(depth));
        }
        return out.toString();
    }

    private String factor(int depth) {
        int n = dice.nextInt(10);
        if (n < 2 && depth < 11) {
            return n == 0 && dice.nextInt(8) == 0 ? "((((((((" + sum(depth + 9) + "))))))))" : "(" + sum(depth + 1) + ")";
        }
        if (n < 6) {
            return FACTS[dice.nextInt(6)];
        }
        return String.valueOf(dice.nextInt(n == 9 ? 1000000 : 101));
    }
}
