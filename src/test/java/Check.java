/** Counts the answers that are not the ones that are due. */
final class Check {
    private int wrong = 0;
    private int asked = 0;

    void due(String call, long got, long want) {
        asked++;
        if (got != want) {
            wrong++;
            System.out.println(call + " answered " + got + ", due is " + want);
        }
    }

    void due(String call, boolean got, boolean want) {
        due(call, got ? 1L : 0L, want ? 1L : 0L);
    }

    void finish() {
        System.out.println(asked + " answers, " + wrong + " wrong");
        if (wrong != 0 || asked == 0) {
            System.exit(1);
        }
    }

    /** Puts a text on the (empty) tape: 20 bytes a call, the rest of the last ones cut off. */
    static void type(SurplusLand land, String text) {
        for (int i = 0; i < text.length(); i += 20) {
            int[] five = new int[5];
            for (int j = 0; j < 20; j++) {
                int c = i + j < text.length() ? text.charAt(i + j) : 0;
                five[j / 4] = five[j / 4] << 8 | c;
            }
            land.feed(five[0], five[1], five[2], five[3], five[4]);
        }
        land.end(text.length());
    }

    static int law(SurplusLand land, String text, int from, int to) {
        type(land, text);
        return land.law(from, to);
    }

    static long beside(SurplusLand land, String text, int what) {
        type(land, text);
        return land.beside(what);
    }

    /** The place of the fault in a text; NONE without one. */
    static int fault(String text) {
        SurplusLand land = new SurplusLand();
        law(land, text, 0, 29);
        return land.fault();
    }
}
