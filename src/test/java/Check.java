import java.io.IOException;
import java.nio.file.Files;
import java.nio.file.Path;

/** Counts the answers that are not the ones that are due. */
final class Check {
    private static final String DOCUMENT = document();

    private int wrong = 0;
    private int asked = 0;
    private String words = "";

    /** The document in one line; empty where there is none, so that tests run without it too. */
    private static String document() {
        try {
            return oneLine(Files.readString(Path.of("../shared/DOC.md")));
        } catch (IOException e) {
            return "";
        }
    }

    private static String oneLine(String text) {
        return text.replaceAll("\\s+", " ");
    }

    /** The words of the document that the next answers are asked for; they must stand there. */
    void sentence(String quoted) {
        words = "'" + quoted + "': ";
        due("stands in the document", DOCUMENT.isEmpty() || DOCUMENT.contains(oneLine(quoted)), true);
    }

    void due(String call, long got, long want) {
        asked++;
        if (got != want) {
            wrong++;
            System.out.println(words + call + " answered " + got + ", due is " + want);
        }
    }

    void due(String call, boolean got, boolean want) {
        due(call, got ? 1L : 0L, want ? 1L : 0L);
    }

    void finish() {
        System.out.println(asked + " answers, " + wrong + " wrong");
        if (wrong != 0 || asked == 0) {
            System.exit(1);
        }
    }

    /** Puts a text on the (empty) tape: 20 bytes a call, the rest of the last ones cut off. */
    static void type(SurplusLand land, String text) {
        for (int i = 0; i < text.length(); i += 20) {
            int[] five = new int[5];
            for (int j = 0; j < 20; j++) {
                int c = i + j < text.length() ? text.charAt(i + j) : 0;
                five[j / 4] = five[j / 4] << 8 | c;
            }
            land.feed(five[0], five[1], five[2], five[3], five[4]);
        }
        land.end(text.length());
    }

    static int law(SurplusLand land, String text, int from, int to) {
        type(land, text);
        return land.law(from, to);
    }

    static long beside(SurplusLand land, String text, int what) {
        type(land, text);
        return land.beside(what);
    }

    /** The place of the fault in a text; NONE without one; -99 if law() does not answer as fault() does. */
    static int fault(String text) {
        SurplusLand land = new SurplusLand();
        int clauses = law(land, text, 0, 29);
        boolean alike = land.fault() < 0 ? clauses > 0 : clauses == -4;
        return alike ? land.fault() : -99;
    }
}
