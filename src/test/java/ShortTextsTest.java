import java.util.ArrayList;
import java.util.HashSet;
import java.util.List;
import java.util.Set;

/**
 * Every text of a few tokens, beside all texts that the grammar makes of so many: those, and no others, are
 * contents. The grammar is used the other way round here than in the class: it makes texts and reads none.
 */
public final class ShortTextsTest {
    private static final int MOST_CALLS = 512;
    private static final int CALLS_A_TEXT = 8;
    private static final int OWN_CELL = 63;

    private static final Check check = new Check();

    private static RecalcSheet sheet = new RecalcSheet();
    private static int calls;
    private static int taken;
    private static int refused;

    public static void main(String[] args) {
        check.says("a text of 1 to 40 characters of this grammar");
        all(5, "1", "A1", "-", "*", "<", ">", "=", "(", ")", "SUM(", ",", ":");
        all(7, "IF(", "1", ",", ")", "-", "(");
        all(7, "MIN(", "A1", ":", ",", ")", "-");
        all(6, "1", "+", "%", "/", "<", ">", "=");
        numbers();
        check.due("contents taken", taken > 1000, true);
        System.out.println(taken + " taken, " + refused + " refused");
        check.end();
    }

    private static void all(int most, String... tokens) {
        Set<String> contents = new Made(most, Set.of(tokens)).expressions();
        each("", most, tokens, contents);
    }

    private static void each(String text, int most, String[] tokens, Set<String> contents) {
        look("=" + text, contents.contains(text));
        for (int i = 0; most > 0 && i < tokens.length; i++) {
            each(text + tokens[i], most - 1, tokens, contents);
        }
    }

    /** Texts that do not begin as a formula does. */
    private static void numbers() {
        for (String minuses : new String[] {"", "-", "--", "+"}) {
            for (int digits = 0; digits <= 12; digits++) {
                boolean oneMinusAtMost = minuses.isEmpty() || minuses.equals("-");
                look(minuses + "0".repeat(digits), oneMinusAtMost && digits >= 1 && digits <= 9);
            }
        }
    }

    private static void look(String text, boolean content) {
        if (calls + CALLS_A_TEXT > MOST_CALLS) {
            sheet = new RecalcSheet();
            calls = 0;
        }
        calls += CALLS_A_TEXT;
        Check.type(sheet, text);
        String answer = Check.enter(sheet, OWN_CELL);
        boolean threw = answer.equals("java.lang.IllegalArgumentException");
        boolean changed = answer.equals("0") || answer.equals("1");
        check.due("enter " + text, threw ? "refused" : changed ? "taken" : answer, content ? "taken" : "refused");
        check.due("wipe behind " + text, sheet.wipe(), content ? 0 : text.length());
        taken += content ? 1 : 0;
        refused += content ? 0 : 1;
    }

    /** All texts that each part of the grammar makes of n tokens, for each n. */
    private static final class Made {
        private final Set<String> tokens;
        private final List<Set<String>> factors = new ArrayList<>();
        private final List<Set<String>> products = new ArrayList<>();
        private final List<Set<String>> sums = new ArrayList<>();
        private final List<Set<String>> expressions = new ArrayList<>();
        private final List<Set<String>> singles = new ArrayList<>();
        private final List<Set<String>> arguments = new ArrayList<>();

        Made(int most, Set<String> tokens) {
            this.tokens = tokens;
            for (int n = 0; n <= most; n++) {
                // No part is made of nothing, so each of n tokens is made of parts with fewer.
                factors.add(factorsOf(n));
                products.add(chained(n, products, factors, "*", "/", "%"));
                sums.add(chained(n, sums, products, "+", "-"));
                expressions.add(expressionsOf(n));
                singles.add(singlesOf(n));
                arguments.add(chained(n, arguments, singles, ","));
            }
        }

        Set<String> expressions() {
            Set<String> all = new HashSet<>();
            for (Set<String> some : expressions) {
                all.addAll(some);
            }
            return all;
        }

        private Set<String> some(List<Set<String>> parts, int n) {
            return n >= 0 && n < parts.size() ? parts.get(n) : Set.of();
        }

        private void put(Set<String> made, String before, Set<String> inside, String behind) {
            for (String one : inside) {
                made.add(before + one + behind);
            }
        }

        private Set<String> factorsOf(int n) {
            Set<String> made = new HashSet<>();
            if (n >= 1 && n <= 9 && tokens.contains("1")) {
                made.add("1".repeat(n));
            }
            if (n == 1 && tokens.contains("A1")) {
                made.add("A1");
            }
            if (tokens.contains("-")) {
                put(made, "-", some(factors, n - 1), "");
            }
            if (tokens.contains("(")) {
                put(made, "(", some(expressions, n - 2), ")");
            }
            if (tokens.contains("IF(")) {
                put(made, "IF(", triplesOf(n - 2), ")");
            }
            for (String function : new String[] {"SUM(", "MIN("}) {
                if (tokens.contains(function)) {
                    put(made, function, some(arguments, n - 2), ")");
                }
            }
            return made;
        }

        private Set<String> triplesOf(int n) {
            Set<String> made = new HashSet<>();
            for (int first = 1; first < n; first++) {
                for (int second = 1; second < n; second++) {
                    for (String one : some(expressions, first)) {
                        for (String other : some(expressions, second)) {
                            put(made, one + "," + other + ",", some(expressions, n - 2 - first - second), "");
                        }
                    }
                }
            }
            return made;
        }

        /** One part of n tokens, or a chain, an operator and one part more. */
        private Set<String> chained(int n, List<Set<String>> chains, List<Set<String>> parts, String... operators) {
            Set<String> made = new HashSet<>(some(parts, n));
            for (String operator : operators) {
                if (tokens.contains(operator)) {
                    put(made, n, chains, operator, parts);
                }
            }
            return made;
        }

        /** Left, operator and right, of n tokens in all; each character of the operator is a token. */
        private void put(Set<String> made, int n, List<Set<String>> lefts, String operator, List<Set<String>> rights) {
            for (int left = 1; left < n; left++) {
                for (String one : some(lefts, left)) {
                    put(made, one + operator, some(rights, n - left - operator.length()), "");
                }
            }
        }

        private Set<String> expressionsOf(int n) {
            Set<String> made = new HashSet<>(some(sums, n));
            for (String operator : new String[] {"<>", "<=", ">=", "<", ">", "="}) {
                if (tokens.containsAll(Set.of(operator.split("")))) {
                    put(made, n, sums, operator, sums);
                }
            }
            return made;
        }

        private Set<String> singlesOf(int n) {
            Set<String> made = new HashSet<>(some(expressions, n));
            if (n == 3 && tokens.contains(":") && tokens.contains("A1")) {
                made.add("A1:A1");
            }
            return made;
        }
    }
}
