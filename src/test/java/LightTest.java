/** Promise 26: how far drawn sacks prove a fraud. */
public final class LightTest {
    private static final Check check = new Check();

    public static void main(String[] args) {
        refused();
        plainCases();
        counted();
        againstThePlainTelling();
        check.finish();
    }

    private static int light(int all, int n, int k, int what) {
        return new SurplusLand().light(all, n, k, what);
    }

    private static void refused() {
        check.due("light(0, 0, 0, 0)", light(0, 0, 0, 0), -2);
        check.due("light(61, 0, 0, 0)", light(61, 0, 0, 0), -2);
        check.due("light(-1, -1, -1, 0)", light(-1, -1, -1, 0), -2);
        check.due("light(10, -1, 0, 0)", light(10, -1, 0, 0), -2);
        check.due("light(10, 11, 0, 0)", light(10, 11, 0, 0), -2);
        check.due("light(10, 5, -1, 0)", light(10, 5, -1, 0), -2);
        check.due("light(10, 5, 6, 0)", light(10, 5, 6, 0), -2);
        check.due("light(10, 5, 3, -1)", light(10, 5, 3, -1), -2);
        check.due("light(10, 5, 3, 2)", light(10, 5, 3, 2), -2);
        check.due("light(max ..)", light(Integer.MAX_VALUE, 1, 1, 0), -2);
    }

    private static void plainCases() {
        check.due("one in 20 is not beyond", light(20, 1, 1, 0), 1);
        check.due("19 in 20", light(20, 1, 0, 1), 19);
        check.due("one in 21 is beyond", light(21, 1, 1, 0), 2);
        check.due("1 in 21 is beyond", light(21, 1, 0, 1), 19);
        check.due("all drawn", light(60, 60, 31, 0), 31);
        check.due("all drawn", light(60, 60, 31, 1), 31);
        check.due("one", light(1, 1, 1, 0), 1);
        check.due("one", light(1, 1, 0, 1), 0);
        check.due("none drawn", light(1, 0, 0, 1), 1);
    }

    /** Each set of n of all, one by one, as far as these are few. */
    private static void counted() {
        for (int all = 1; all <= 11; all++) {
            for (int n = 0; n <= all; n++) {
                for (int k = 0; k <= n; k++) {
                    check.due("least " + all + " " + n + " " + k, light(all, n, k, 0), byCounting(all, n, k, 0));
                    check.due("greatest " + all + " " + n + " " + k, light(all, n, k, 1), byCounting(all, n, k, 1));
                }
            }
        }
    }

    private static int byCounting(int all, int n, int k, int what) {
        int answer = -1;
        for (int l = 0; l <= all; l++) {
            int sets = 0;
            int alike = 0;
            for (int set = 0; set < 1 << all; set++) {
                if (Integer.bitCount(set) == n) {
                    int found = Integer.bitCount(set & (1 << l) - 1);
                    sets++;
                    alike += (what == 0 ? found >= k : found <= k) ? 1 : 0;
                }
            }
            if (alike * 20 >= sets && (what == 1 || answer < 0)) {
                answer = l;
            }
        }
        return answer;
    }

    private static void againstThePlainTelling() {
        PlainLand plain = new PlainLand();
        for (int all = 12; all <= 60; all += 16) {
            for (int n = 0; n <= all; n += 3) {
                SurplusLand x = new SurplusLand();
                for (int k = 0; k <= n; k++) {
                    check.due("least " + all + " " + n + " " + k, x.light(all, n, k, 0), plain.light(all, n, k, 0));
                    check.due("greatest " + all + " " + n + " " + k, x.light(all, n, k, 1), plain.light(all, n, k, 1));
                }
            }
        }
    }
}
