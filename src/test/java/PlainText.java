import java.util.ArrayList;
import java.util.List;
import java.util.Map;
import java.util.regex.Matcher;
import java.util.regex.Pattern;

/** A law's text, parsed and worked out in one go, each time that it is asked. */
final class PlainText {
    /** Says where a text has its fault. */
    static final class Fault extends Exception {
        private static final long serialVersionUID = 1L;
        final int place;

        Fault(int place) {
            this.place = place;
        }
    }

    /** What a text says. */
    static final class Saying {
        Long keep;
        Long sell;
        final List<Long> frees = new ArrayList<>();
        final List<Long> leasts = new ArrayList<>();
        final List<Long> stills = new ArrayList<>();
        int clauses;
    }

    private static final Pattern TOKEN = Pattern.compile("[ \\n]+|[a-z]+|[0-9]+|.", Pattern.DOTALL);
    private static final String END = "";

    private final List<String> tokens = new ArrayList<>();
    private final List<Integer> places = new ArrayList<>();
    private final Map<String, Long> facts;
    private int at = 0;

    private PlainText(String text, Map<String, Long> facts) {
        this.facts = facts;
        Matcher m = TOKEN.matcher(text);
        while (m.find()) {
            if (!m.group().matches("[ \\n]+")) {
                tokens.add(m.group());
                places.add(m.start());
            }
        }
        tokens.add(END);
        places.add(text.length());
    }

    static Saying hear(String text, Map<String, Long> facts) throws Fault {
        return new PlainText(text, facts).text();
    }

    private String next() {
        return tokens.get(at);
    }

    private Fault fault() {
        return new Fault(places.get(at));
    }

    private boolean take(String token) {
        if (next().equals(token) && at < tokens.size() - 1) {
            at++;
            return true;
        }
        return false;
    }

    private Saying text() throws Fault {
        Saying said = new Saying();
        do {
            if (said.clauses == 12) {
                throw fault();
            }
            clause(said);
            said.clauses++;
        } while (take(";"));
        if (!next().equals(END)) {
            throw fault();
        }
        return said;
    }

    private void clause(Saying said) throws Fault {
        if (take("keep")) {
            long v = sum(0);
            if (!take("if") || conditions()) {
                said.keep = said.keep == null ? Long.valueOf(v) : said.keep;
            }
        } else if (take("sell")) {
            long v = sum(0);
            if (!take("if") || conditions()) {
                said.sell = said.sell == null ? Long.valueOf(v) : said.sell;
            }
        } else if (take("free")) {
            said.frees.add(number());
        } else if (take("least")) {
            said.leasts.add(number());
        } else if (take("still")) {
            said.stills.add(number());
        } else {
            throw fault();
        }
    }

    private boolean conditions() throws Fault {
        boolean all = true;
        do {
            long a = sum(0);
            String sign = next();
            if (!take("<") && !take(">") && !take("=")) {
                throw fault();
            }
            long b = sum(0);
            all &= sign.equals("<") ? a < b : sign.equals(">") ? a > b : a == b;
        } while (take("and"));
        return all;
    }

    private long sum(int depth) throws Fault {
        long v = term(depth);
        while (true) {
            if (take("+")) {
                v += term(depth);
            } else if (take("-")) {
                v -= term(depth);
            } else {
                return v;
            }
        }
    }

    private long term(int depth) throws Fault {
        long v = factor(depth);
        while (true) {
            if (take("*")) {
                v *= factor(depth);
            } else if (take("/")) {
                long by = factor(depth);
                v = by == 0 ? 0 : by == -1 ? -v : v / by;
            } else {
                return v;
            }
        }
    }

    private long factor(int depth) throws Fault {
        Long fact = facts.get(next());
        if (fact != null) {
            at++;
            return fact;
        }
        if (!next().equals("(")) {
            return number();
        }
        if (depth == 8) {
            throw fault();
        }
        at++;
        long v = sum(depth + 1);
        if (!take(")")) {
            throw fault();
        }
        return v;
    }

    private long number() throws Fault {
        if (!next().matches("0*[0-9]{1,6}")) {
            throw fault();
        }
        long v = Long.parseLong(next().replaceFirst("^0+(?=.)", ""));
        at++;
        return v;
    }
}
