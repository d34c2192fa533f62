import java.util.ArrayList;
import java.util.Arrays;
import java.util.HashSet;
import java.util.List;
import java.util.Random;
import java.util.Set;
import java.util.TreeSet;

/**
 * Runs of 512 calls at most, the same ones each time, on the class and on a model that follows the
 * document's words without regard to speed: it reads texts by sets of ends, works them out by
 * cutting them at their last operator, and works the whole sheet out anew after each change.
 */
public final class ModelTest {
    private static final int RUNS = 1500;
    private static final int CALLS = 512;

    private static final Check check = new Check();

    public static void main(String[] args) {
        for (int run = 0; run < RUNS; run++) {
            new Run(run).go();
        }
        check.due("contents entered", entered > 50000, true);
        check.due("rounds refused", rounds > 5000, true);
        check.due("texts refused", refused > 10000, true);
        check.due("places moved", moved > 5000, true);
        System.out.println(entered + " entered, " + rounds + " rounds, " + refused + " no contents, "
                + moved + " moved places, " + undone + " undone");
        check.end();
    }

    private static int entered;
    private static int rounds;
    private static int refused;
    private static int moved;
    private static int undone;

    /** A value as a text: "" for empty, a number, or "error n". */
    private static boolean isError(String value) {
        return value.startsWith("error");
    }

    private static final class Run {
        private final int run;
        private final Random random;
        private final RecalcSheet sheet = new RecalcSheet();
        private final Model model = new Model();
        private final Texts texts;
        private final int enterWeight;
        private final int undoWeight;
        private int calls;

        Run(int run) {
            this.run = run;
            this.random = new Random(run);
            // Few cells in a run make long chains and rounds likely.
            this.texts = new Texts(random, 1 + random.nextInt(8), 1 + random.nextInt(8));
            this.enterWeight = 20 + random.nextInt(60);
            this.undoWeight = random.nextInt(20);
        }

        void go() {
            // One turn makes 14 calls at most: ten to type a text, and four more.
            while (calls <= CALLS - 14) {
                int dice = random.nextInt(100);
                if (dice < enterWeight) {
                    enter();
                } else if (dice < enterWeight + 4) {
                    clear();
                } else if (dice < enterWeight + 4 + undoWeight) {
                    undo();
                } else {
                    look();
                }
            }
        }

        private void due(String call, Object got, Object want) {
            calls++;
            check.due("run " + run + ", call " + calls + ": " + call, got, want);
        }

        private int cell() {
            return random.nextInt(60) == 0 ? (random.nextBoolean() ? -1 : 64) : texts.cell();
        }

        private void enter() {
            String text = texts.next();
            int from = 0;
            while (from < text.length()) {
                int n = Math.min(text.length() - from, 4 + random.nextInt(5));
                String part = text.substring(from, from + n);
                due("type " + part, sheet.type(Check.packed(part), n), model.type(part));
                from += n;
            }
            int cell = cell();
            String before = Arrays.toString(model.places);
            String want = model.enter(cell);
            due("enter " + cell + " " + text, Check.enter(sheet, cell), want);
            moved += before.equals(Arrays.toString(model.places)) ? 0 : 1;
            if (want.endsWith("IllegalStateException")) {
                rounds++;
            } else if (want.endsWith("Exception")) {
                refused++;
            } else {
                entered++;
            }
            if (want.endsWith("Exception") && random.nextInt(8) != 0) {
                due("wipe", sheet.wipe(), model.wipe());
            }
            lookAtChange();
        }

        private void clear() {
            int cell = cell();
            due("clear " + cell, Check.clear(sheet, cell), model.clear(cell));
            lookAtChange();
        }

        private void undo() {
            undone++;
            due("undo", Check.undo(sheet), model.undo());
            lookAtChange();
        }

        private void lookAtChange() {
            if (random.nextInt(3) == 0) {
                due("worked", sheet.worked(), model.worked);
                int i = random.nextInt(model.changed.size() + 1);
                due("changed " + i, sheet.changed(i), i < model.changed.size() ? model.changed.get(i) : -1);
            }
        }

        private void look() {
            int cell = random.nextInt(10) == 0 ? random.nextInt(66) - 1 : cell();
            boolean is = cell >= 0 && cell < 64;
            String value = is ? model.values[cell] : "";
            String text = is ? model.contents[cell] : "";
            switch (random.nextInt(7)) {
                case 0:
                    due("value " + cell, Check.value(sheet, cell), !is ? "java.lang.IllegalArgumentException"
                            : isError(value) ? "java.lang.ArithmeticException" : value.isEmpty() ? "0" : value);
                    break;
                case 1:
                    due("kind " + cell, sheet.kind(cell), !is ? -1 : value.isEmpty() ? 0
                            : value.equals("error 1") ? 2 : value.equals("error 2") ? 3 : 1);
                    break;
                case 2:
                    int i = random.nextInt(text.length() + 3) - 1;
                    due("content " + cell + " " + i, sheet.content(cell, i),
                            i >= 0 && i < text.length() ? (int) text.charAt(i) : -1);
                    break;
                case 3:
                    long mask = 0;
                    for (int other : Grammar.references(text)) {
                        mask += 1L << other;
                    }
                    due("refers " + cell, sheet.refers(cell), mask);
                    break;
                case 4:
                case 5:
                    due("place " + cell, sheet.place(cell), is ? model.places[cell] : -1);
                    break;
                default:
                    due("log", sheet.log(), model.log.size());
            }
        }
    }

    /** Texts by the grammar, and some that are nearly so. */
    private static final class Texts {
        private final Random random;
        private final int columns;
        private final int rows;

        Texts(Random random, int columns, int rows) {
            this.random = random;
            this.columns = columns;
            this.rows = rows;
        }

        int cell() {
            return 8 * random.nextInt(rows) + random.nextInt(columns);
        }

        String next() {
            String text = "";
            do {
                text = random.nextInt(5) == 0 ? (random.nextBoolean() ? "-" : "") + digits()
                        : "=" + expression(random.nextInt(12) == 0 ? 9 : random.nextInt(4));
            } while (text.length() > 40);
            return random.nextInt(6) == 0 ? spoilt(text) : text;
        }

        private String spoilt(String text) {
            String some = "=-+*/%<>(),:ABHI0189 IFSUMCOUNT";
            int at = random.nextInt(text.length());
            String character = String.valueOf(some.charAt(random.nextInt(some.length())));
            switch (random.nextInt(3)) {
                case 0:
                    return text.substring(0, at) + text.substring(at + 1);
                case 1:
                    return text.length() == 40 ? text : text.substring(0, at) + character + text.substring(at);
                default:
                    return text.substring(0, at) + character + text.substring(at + 1);
            }
        }

        private String digits() {
            int length = random.nextInt(4) == 0 ? 1 + random.nextInt(10) : 1;
            StringBuilder digits = new StringBuilder();
            for (int i = 0; i < length; i++) {
                digits.append(random.nextInt(3) == 0 ? 0 : random.nextInt(10));
            }
            return digits.toString();
        }

        private String name() {
            int cell = cell();
            return "" + (char) ('A' + cell % 8) + (char) ('1' + cell / 8);
        }

        private String expression(int size) {
            if (random.nextInt(5) != 0) {
                return sum(size);
            }
            String[] operators = {"<>", "<=", ">=", "<", ">", "="};
            return sum(size / 2) + operators[random.nextInt(6)] + sum(size / 2);
        }

        private String sum(int size) {
            return random.nextInt(3) != 0 ? product(size)
                    : product(size / 2) + (random.nextBoolean() ? "+" : "-") + sum(size / 2);
        }

        private String product(int size) {
            return random.nextInt(3) != 0 ? factor(size)
                    : factor(size / 2) + "*/%".charAt(random.nextInt(3)) + product(size / 2);
        }

        private String factor(int size) {
            if (random.nextInt(8) == 0) {
                return "-" + factor(size);
            }
            if (size <= 0) {
                return random.nextInt(4) == 0 ? digits() : name();
            }
            switch (random.nextInt(size > 4 ? 3 : 6)) {
                case 0:
                case 1:
                    return "(" + expression(size - 1) + ")";
                case 2:
                case 3:
                    String[] functions = {"SUM", "MIN", "MAX", "COUNT"};
                    return functions[random.nextInt(4)] + "(" + arguments(size) + ")";
                case 4:
                    return "IF(" + expression(size / 3) + "," + expression(size / 3) + "," + expression(size / 3) + ")";
                default:
                    return name();
            }
        }

        private String arguments(int size) {
            String one = random.nextBoolean() ? name() + ":" + name() : expression(size - 1);
            return random.nextInt(3) == 0 ? one + "," + arguments(size / 2) : one;
        }
    }

    /** Which texts are contents: each part answers all the ends it can have from a start on. */
    private static final class Grammar {
        private final String text;

        private Grammar(String text) {
            this.text = text;
        }

        static boolean reads(String text) {
            int length = text.length();
            if (length < 1 || length > 40 || deepest(text) > 8) {
                return false;
            }
            Grammar grammar = new Grammar(text);
            boolean number = text.startsWith("-") ? grammar.digits(1).contains(length) : grammar.digits(0).contains(length);
            return number || text.startsWith("=") && grammar.expression(1).contains(length);
        }

        private static int deepest(String text) {
            int deep = 0;
            int deepest = 0;
            for (char c : text.toCharArray()) {
                deep += c == '(' ? 1 : c == ')' ? -1 : 0;
                deepest = Math.max(deepest, deep);
            }
            return deepest;
        }

        static Set<Integer> references(String text) {
            Set<Integer> cells = new TreeSet<>();
            for (int i = 0; i + 1 < text.length(); i++) {
                if (!isName(text, i)) {
                    continue;
                }
                cells.add(Check.cell(text.substring(i, i + 2)));
                if (i + 2 < text.length() && text.charAt(i + 2) == ':') {
                    cells.addAll(range(text.substring(i, i + 5)));
                }
            }
            return cells;
        }

        /** Row by row, in a row column by column. */
        static List<Integer> range(String names) {
            int one = Check.cell(names.substring(0, 2));
            int other = Check.cell(names.substring(3));
            List<Integer> cells = new ArrayList<>();
            for (int cell = 0; cell < 64; cell++) {
                if (between(cell / 8, one / 8, other / 8) && between(cell % 8, one % 8, other % 8)) {
                    cells.add(cell);
                }
            }
            return cells;
        }

        private static boolean between(int x, int one, int other) {
            return one <= x && x <= other || other <= x && x <= one;
        }

        private static boolean isName(String text, int i) {
            return i + 1 < text.length() && "ABCDEFGH".indexOf(text.charAt(i)) >= 0
                    && "12345678".indexOf(text.charAt(i + 1)) >= 0;
        }

        private Set<Integer> literal(Set<Integer> starts, String... all) {
            Set<Integer> ends = new HashSet<>();
            for (int start : starts) {
                for (String one : all) {
                    if (text.startsWith(one, start)) {
                        ends.add(start + one.length());
                    }
                }
            }
            return ends;
        }

        private interface Part {
            Set<Integer> ends(int start);
        }

        private static Set<Integer> then(Set<Integer> starts, Part part) {
            Set<Integer> ends = new HashSet<>();
            for (int start : starts) {
                ends.addAll(part.ends(start));
            }
            return ends;
        }

        /** A part, and any number of times one of the literals and the part again. */
        private Set<Integer> chain(int start, Part part, String... literals) {
            Set<Integer> all = new HashSet<>();
            Set<Integer> ends = part.ends(start);
            while (!ends.isEmpty()) {
                all.addAll(ends);
                ends = then(literal(ends, literals), part);
            }
            return all;
        }

        private Set<Integer> digits(int start) {
            int end = start;
            while (end < text.length() && Character.isDigit(text.charAt(end))) {
                end++;
            }
            return end - start >= 1 && end - start <= 9 ? Set.of(end) : Set.of();
        }

        private Set<Integer> expression(int start) {
            Set<Integer> ends = new HashSet<>(sum(start));
            ends.addAll(then(literal(sum(start), "<>", "<=", ">=", "<", ">", "="), this::sum));
            return ends;
        }

        private Set<Integer> sum(int start) {
            return chain(start, this::product, "+", "-");
        }

        private Set<Integer> product(int start) {
            return chain(start, this::factor, "*", "/", "%");
        }

        private Set<Integer> factor(int start) {
            Set<Integer> ends = new HashSet<>(digits(start));
            Set<Integer> here = Set.of(start);
            ends.addAll(then(literal(here, "-"), this::factor));
            if (isName(text, start)) {
                ends.add(start + 2);
            }
            ends.addAll(literal(then(literal(here, "("), this::expression), ")"));
            Set<Integer> second = then(literal(then(literal(here, "IF("), this::expression), ","), this::expression);
            ends.addAll(literal(then(literal(second, ","), this::expression), ")"));
            for (int inside : literal(here, "SUM(", "MIN(", "MAX(", "COUNT(")) {
                ends.addAll(literal(chain(inside, this::argument, ","), ")"));
            }
            return ends;
        }

        private Set<Integer> argument(int start) {
            Set<Integer> ends = new HashSet<>(expression(start));
            if (isName(text, start) && text.startsWith(":", start + 2) && isName(text, start + 3)) {
                ends.add(start + 5);
            }
            return ends;
        }
    }

    private static final class Model {
        private final String[] contents = new String[64];
        private String[] values = new String[64];
        private final int[] places = new int[64];
        private final List<Object[]> log = new ArrayList<>();
        private List<Integer> changed = new ArrayList<>();
        private int worked;
        private String typed = "";

        Model() {
            Arrays.fill(contents, "");
            Arrays.fill(values, "");
            for (int i = 0; i < 64; i++) {
                places[i] = i;
            }
        }

        int type(String part) {
            if (typed.length() + part.length() > 40) {
                return -1;
            }
            typed += part;
            return typed.length();
        }

        int wipe() {
            int before = typed.length();
            typed = "";
            return before;
        }

        String enter(int cell) {
            if (cell < 0 || cell > 63 || !Grammar.reads(typed)) {
                return "java.lang.IllegalArgumentException";
            }
            String before = contents[cell];
            contents[cell] = typed;
            boolean round = from(Grammar.references(typed)).contains(cell);
            contents[cell] = before;
            if (round) {
                return "java.lang.IllegalStateException";
            }
            put(cell, before);
            String text = typed;
            typed = "";
            return change(cell, text);
        }

        String clear(int cell) {
            if (cell < 0 || cell > 63) {
                return "java.lang.IllegalArgumentException";
            }
            if (contents[cell].isEmpty()) {
                return "0";
            }
            put(cell, contents[cell]);
            return change(cell, "");
        }

        String undo() {
            if (log.isEmpty()) {
                return "java.util.NoSuchElementException";
            }
            Object[] latest = log.remove(log.size() - 1);
            return change((Integer) latest[0], (String) latest[1]);
        }

        private void put(int cell, String before) {
            log.add(new Object[] {cell, before});
            if (log.size() > 20) {
                log.remove(0);
            }
        }

        /** These and all that they come from. */
        private Set<Integer> from(Set<Integer> these) {
            Set<Integer> all = new HashSet<>(these);
            for (int before = -1; before != all.size();) {
                before = all.size();
                for (int cell : new ArrayList<>(all)) {
                    all.addAll(Grammar.references(contents[cell]));
                }
            }
            return all;
        }

        private String change(int cell, String text) {
            contents[cell] = text;
            for (int x : Grammar.references(text)) {
                if (places[x] > places[cell]) {
                    move(x, cell);
                }
            }
            String[] before = values;
            values = new String[64];
            for (int i = 0; i < 64; i++) {
                workOut(i);
            }
            changed = new ArrayList<>();
            for (int i = 0; i < 64; i++) {
                if (!values[i].equals(before[i])) {
                    changed.add(i);
                }
            }
            byPlaces(changed);
            Set<Integer> again = new HashSet<>(Set.of(cell));
            for (int i = 0; i < 64; i++) {
                for (int other : Grammar.references(contents[i])) {
                    if (changed.contains(other)) {
                        again.add(i);
                    }
                }
            }
            worked = again.size();
            everyCellStandsBehind();
            return String.valueOf(changed.size());
        }

        private void byPlaces(List<Integer> cells) {
            cells.sort((one, other) -> Integer.compare(places[one], places[other]));
        }

        private void everyCellStandsBehind() {
            for (int i = 0; i < 64; i++) {
                for (int other : Grammar.references(contents[i])) {
                    if (places[other] >= places[i]) {
                        throw new IllegalStateException("the model's order is wrong");
                    }
                }
            }
        }

        private void move(int x, int y) {
            List<Integer> back = new ArrayList<>();
            List<Integer> front = new ArrayList<>();
            for (int cell = 0; cell < 64; cell++) {
                if (from(Set.of(x)).contains(cell) && places[cell] > places[y]) {
                    back.add(cell);
                }
                if (from(Set.of(cell)).contains(y) && places[cell] < places[x]) {
                    front.add(cell);
                }
            }
            byPlaces(back);
            byPlaces(front);
            List<Integer> all = new ArrayList<>(back);
            all.addAll(front);
            TreeSet<Integer> free = new TreeSet<>();
            for (int cell : all) {
                free.add(places[cell]);
            }
            for (int cell : all) {
                places[cell] = free.pollFirst();
            }
        }

        private String workOut(int cell) {
            if (values[cell] == null) {
                String text = contents[cell];
                values[cell] = text.startsWith("=") ? expression(text.substring(1))
                        : text.isEmpty() ? "" : String.valueOf(Long.parseLong(text));
            }
            return values[cell];
        }

        /** Where the last of the operators stands outside all brackets, -1 if nowhere. */
        private static int last(String text, String operators) {
            int deep = 0;
            for (int i = text.length() - 1; i > 0; i--) {
                char c = text.charAt(i);
                deep += c == ')' ? 1 : c == '(' ? -1 : 0;
                // Behind another operator a minus is a sign.
                boolean twoSided = Character.isDigit(text.charAt(i - 1)) || text.charAt(i - 1) == ')';
                if (deep == 0 && twoSided && operators.indexOf(c) >= 0) {
                    return i;
                }
            }
            return -1;
        }

        private String expression(String text) {
            for (String operators : new String[] {"<>=", "+-", "*/%"}) {
                int at = last(text, operators);
                if (at >= 0) {
                    int end = "<>=".indexOf(text.charAt(at + 1)) >= 0 ? at + 2 : at + 1;
                    return joined(expression(text.substring(0, at)), text.substring(at, end), expression(text.substring(end)));
                }
            }
            return factor(text);
        }

        private String joined(String left, String operator, String right) {
            if (isError(left) || isError(right)) {
                return isError(left) ? left : right;
            }
            long a = Long.parseLong(left);
            long b = Long.parseLong(right);
            if (b == 0 && (operator.equals("/") || operator.equals("%"))) {
                return "error 1";
            }
            switch (operator) {
                case "+": return String.valueOf(a + b);
                case "-": return String.valueOf(a - b);
                case "*": return String.valueOf(a * b);
                case "/": return String.valueOf(a / b);
                case "%": return String.valueOf(a % b);
                case "<": return a < b ? "1" : "0";
                case ">": return a > b ? "1" : "0";
                case "=": return a == b ? "1" : "0";
                case "<>": return a != b ? "1" : "0";
                case "<=": return a <= b ? "1" : "0";
                case ">=": return a >= b ? "1" : "0";
                default: throw new IllegalStateException("no operator " + operator);
            }
        }

        private String factor(String text) {
            if (text.startsWith("-")) {
                String positive = factor(text.substring(1));
                return isError(positive) ? positive : String.valueOf(-Long.parseLong(positive));
            }
            if (Character.isDigit(text.charAt(0))) {
                return String.valueOf(Long.parseLong(text));
            }
            if (text.length() == 2) {
                String value = workOut(Check.cell(text));
                return value.isEmpty() ? "0" : value;
            }
            int open = text.indexOf('(');
            List<String> parts = parts(text.substring(open + 1, text.length() - 1));
            switch (text.substring(0, open)) {
                case "":
                    return expression(parts.get(0));
                case "IF":
                    String test = expression(parts.get(0));
                    return isError(test) ? test : expression(parts.get(test.equals("0") ? 2 : 1));
                default:
                    return function(text.substring(0, open), parts);
            }
        }

        private static List<String> parts(String text) {
            List<String> parts = new ArrayList<>();
            int deep = 0;
            int from = 0;
            for (int i = 0; i < text.length(); i++) {
                char c = text.charAt(i);
                deep += c == '(' ? 1 : c == ')' ? -1 : 0;
                if (deep == 0 && c == ',') {
                    parts.add(text.substring(from, i));
                    from = i + 1;
                }
            }
            parts.add(text.substring(from));
            return parts;
        }

        private String function(String function, List<String> parts) {
            List<String> met = new ArrayList<>();
            for (String part : parts) {
                if (part.length() == 5 && part.charAt(2) == ':') {
                    for (int cell : Grammar.range(part)) {
                        met.add(workOut(cell));
                    }
                } else {
                    met.add(expression(part));
                }
            }
            met.removeIf(String::isEmpty);
            for (String one : met) {
                if (isError(one)) {
                    return one;
                }
            }
            long[] numbers = met.stream().mapToLong(Long::parseLong).sorted().toArray();
            switch (function) {
                case "SUM":
                    return String.valueOf(Arrays.stream(numbers).sum());
                case "COUNT":
                    return String.valueOf(numbers.length);
                default:
                    return numbers.length == 0 ? "error 2"
                            : String.valueOf(numbers[function.equals("MIN") ? 0 : numbers.length - 1]);
            }
        }
    }
}
