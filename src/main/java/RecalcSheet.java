import java.util.NoSuchElementException;

/**
 * A sheet of 64 cells with numbers and formulas that refer to one another. Texts are typed, entered
 * into cells by a grammar, worked out in an order that is kept up to date, and can be taken back.
 */
public final class RecalcSheet {
    /** An argument is out of its bounds, or there is no such thing. */
    public static final int BAD = -1;

    private static final int SIDE = 8;
    private static final int CELLS = SIDE * SIDE;
    private static final int LONGEST = 40;
    private static final int MOST_DIGITS = 9;
    private static final int DEEPEST = 8;
    private static final int MOST_LOGGED = 20;

    private static final int BYTES = 8;
    private static final int FIRST_CHARACTER = 32;
    private static final int LAST_CHARACTER = 126;

    private static final int EMPTY = 0;
    private static final int NUMBER = 1;

    private static final int NO_ERROR = 0;
    private static final int DIVIDED_BY_ZERO = 1;
    private static final int NO_NUMBER_MET = 2;

    private static final int SUM = 0;
    private static final int MIN = 1;
    private static final int MAX = 2;
    private static final int COUNT = 3;

    // An operator of one character is that character; those of two are none that can be typed.
    private static final int NO_OPERATOR = 0;
    private static final int UNEQUAL = 1;
    private static final int AT_MOST = 2;
    private static final int AT_LEAST = 3;

    private static final char END = 0;

    private final char[] typed;
    private int typedCount;
    private final Content[] contents;
    private final Reader reader;
    private final Values values;
    private final Order order;
    private final History history;
    private final int[] changedCells;
    private int changedCount;
    private int workedCount;

    public RecalcSheet() {
        typed = new char[LONGEST];
        contents = new Content[CELLS];
        reader = new Reader();
        values = reader.values;
        order = new Order();
        history = new History();
        changedCells = new int[CELLS];
    }

    public int type(long characters, int n) {
        if (n < 1 || n > BYTES || typedCount + n > LONGEST) {
            return BAD;
        }
        for (int i = 0; i < n; i++) {
            int character = byteOf(characters, i);
            if (character < FIRST_CHARACTER || character > LAST_CHARACTER) {
                return BAD;
            }
        }
        for (int i = n - 1; i >= 0; i--) {
            typed[typedCount] = (char) byteOf(characters, i);
            typedCount++;
        }
        return typedCount;
    }

    public int wipe() {
        int before = typedCount;
        typedCount = 0;
        return before;
    }

    public int enter(int cell) throws IllegalArgumentException, IllegalStateException {
        if (!isCell(cell) || !reader.read(typed, typedCount)) {
            throw new IllegalArgumentException();
        }
        long references = reader.references;
        if (order.wouldGoRound(cell, references)) {
            throw new IllegalStateException();
        }
        Content entered = new Content(typed, typedCount, references);
        typedCount = 0;
        history.add(cell, contents[cell]);
        return change(cell, entered);
    }

    public int clear(int cell) throws IllegalArgumentException {
        if (!isCell(cell)) {
            throw new IllegalArgumentException();
        }
        if (contents[cell] == null) {
            return 0;
        }
        history.add(cell, contents[cell]);
        return change(cell, null);
    }

    public int undo() throws NoSuchElementException {
        if (history.size == 0) {
            throw new NoSuchElementException();
        }
        int cell = history.latestCell();
        Content before = history.latestContent();
        history.dropLatest();
        // This can't go round: taking back the latest first leads through contents that stood before.
        return change(cell, before);
    }

    public long value(int cell) throws IllegalArgumentException, ArithmeticException {
        if (!isCell(cell)) {
            throw new IllegalArgumentException();
        }
        if (values.errorOf(cell) != NO_ERROR) {
            throw new ArithmeticException();
        }
        return values.numberOf(cell);
    }

    public int kind(int cell) {
        return isCell(cell) ? values.kindOf(cell) : BAD;
    }

    public int content(int cell, int i) {
        if (!isCell(cell) || contents[cell] == null) {
            return BAD;
        }
        char[] text = contents[cell].text;
        return i >= 0 && i < text.length ? text[i] : BAD;
    }

    public long refers(int cell) {
        return isCell(cell) ? order.referencesOf(cell) : 0;
    }

    public int place(int cell) {
        return isCell(cell) ? order.placeOf(cell) : BAD;
    }

    public int changed(int i) {
        return i >= 0 && i < changedCount ? changedCells[i] : BAD;
    }

    public int worked() {
        return workedCount;
    }

    public int log() {
        return history.size;
    }

    private static boolean isCell(int cell) {
        return cell >= 0 && cell < CELLS;
    }

    private static long bit(int cell) {
        return 1L << cell;
    }

    private static boolean has(long cells, int cell) {
        return (cells & bit(cell)) != 0;
    }

    private static int byteOf(long characters, int i) {
        return (int) (characters >>> (8 * i)) & 255;
    }

    /** Gives a cell a content, null for none, and answers how many cells are changed. */
    private int change(int cell, Content content) {
        contents[cell] = content;
        order.refer(cell, content == null ? 0 : content.references);
        changedCount = 0;
        workedCount = 0;
        long becameOther = 0;
        // All that comes from the cell stands behind it, so one way through the places is enough.
        for (int place = order.placeOf(cell); place < CELLS; place++) {
            int next = order.cellAt(place);
            if (next == cell || (order.referencesOf(next) & becameOther) != 0) {
                workedCount++;
                if (workOut(next)) {
                    becameOther |= bit(next);
                    changedCells[changedCount] = next;
                    changedCount++;
                }
            }
        }
        return changedCount;
    }

    /** Works a cell out and answers whether its value has become another one. */
    private boolean workOut(int cell) {
        Content content = contents[cell];
        if (content == null) {
            return values.put(cell, EMPTY, 0);
        }
        reader.read(content.text, content.text.length);
        return values.put(cell, NUMBER + reader.error, reader.number);
    }

    /** What a cell holds; never changed, so that the log may keep it. */
    private static final class Content {
        final char[] text;
        final long references;

        Content(char[] characters, int length, long references) {
            this.text = new char[length];
            System.arraycopy(characters, 0, this.text, 0, length);
            this.references = references;
        }
    }

    /** The values of the cells; the number is 0 wherever there is none. */
    private static final class Values {
        private final int[] kinds;
        private final long[] numbers;

        Values() {
            kinds = new int[CELLS];
            numbers = new long[CELLS];
        }

        int kindOf(int cell) {
            return kinds[cell];
        }

        int errorOf(int cell) {
            return kinds[cell] > NUMBER ? kinds[cell] - NUMBER : NO_ERROR;
        }

        long numberOf(int cell) {
            return numbers[cell];
        }

        /** Answers whether the value has become another one. */
        boolean put(int cell, int kind, long number) {
            boolean other = kinds[cell] != kind || numbers[cell] != number;
            kinds[cell] = kind;
            numbers[cell] = number;
            return other;
        }
    }

    /** The changes that can be taken back, the latest last. */
    private static final class History {
        private final int[] cells;
        private final Content[] befores;
        private int size;

        History() {
            cells = new int[MOST_LOGGED];
            befores = new Content[MOST_LOGGED];
        }

        void add(int cell, Content before) {
            if (size == MOST_LOGGED) {
                dropOldest();
            }
            cells[size] = cell;
            befores[size] = before;
            size++;
        }

        int latestCell() {
            return size > 0 ? cells[size - 1] : 0;
        }

        Content latestContent() {
            return size > 0 ? befores[size - 1] : null;
        }

        void dropLatest() {
            if (size > 0) {
                size--;
                befores[size] = null;
            }
        }

        private void dropOldest() {
            for (int i = 1; i < MOST_LOGGED; i++) {
                cells[i - 1] = cells[i];
                befores[i - 1] = befores[i];
            }
            size = MOST_LOGGED - 1;
        }
    }

    /** Which cells each cell refers to, and places in which every cell stands behind all of these. */
    private static final class Order {
        private final long[] references;
        private final int[] places;
        private final int[] cells;
        private final int[] moving;

        Order() {
            references = new long[CELLS];
            places = new int[CELLS];
            cells = new int[CELLS];
            moving = new int[CELLS];
            for (int i = 0; i < CELLS; i++) {
                places[i] = i;
                cells[i] = i;
            }
        }

        long referencesOf(int cell) {
            return references[cell];
        }

        int placeOf(int cell) {
            return places[cell];
        }

        int cellAt(int place) {
            return cells[place];
        }

        /** Whether a cell would come from itself if it referred to these. */
        boolean wouldGoRound(int cell, long toThese) {
            return has(sources(toThese, 0, CELLS - 1), cell);
        }

        /** Lets a cell refer to these alone, and brings the places up to date. */
        void refer(int cell, long toThese) {
            references[cell] = toThese;
            for (int source = 0; source < CELLS; source++) {
                if (has(toThese, source) && places[source] > places[cell]) {
                    putBehind(cell, source);
                }
            }
        }

        private void putBehind(int cell, int source) {
            int low = places[cell];
            int high = places[source];
            long front = sources(bit(source), low + 1, high);
            long back = users(bit(cell), low, high - 1);
            int frontCount = gather(front, low + 1, high, 0);
            gather(back, low, high - 1, frontCount);
            int next = 0;
            for (int place = low; place <= high; place++) {
                if (has(front | back, cells[place])) {
                    cells[place] = moving[next];
                    places[moving[next]] = place;
                    next++;
                }
            }
        }

        /** These, and what those of them that stand in low .. high come from through such places. */
        private long sources(long these, int low, int high) {
            long found = these;
            // A cell's references stand before it, so whatever is found is still ahead on the way down.
            for (int place = high; place >= low; place--) {
                if (has(found, cells[place])) {
                    found |= references[cells[place]];
                }
            }
            return found;
        }

        /** These, and what comes from them in the places low .. high. */
        private long users(long these, int low, int high) {
            long found = these;
            for (int place = low; place <= high; place++) {
                if ((references[cells[place]] & found) != 0) {
                    found |= bit(cells[place]);
                }
            }
            return found;
        }

        /** Writes those of these that stand in low .. high down from a count on: the new count. */
        private int gather(long these, int low, int high, int from) {
            int count = from;
            for (int place = low; place <= high; place++) {
                if (has(these, cells[place])) {
                    moving[count] = cells[place];
                    count++;
                }
            }
            return count;
        }
    }

    /** What a function has met so far; after the first error nothing more counts. */
    private static final class Tally {
        private int error;
        private int count;
        private long sum;
        private long least;
        private long greatest;

        void start() {
            error = NO_ERROR;
            count = 0;
            sum = 0;
            least = 0;
            greatest = 0;
        }

        void meet(long number, int itsError) {
            if (error != NO_ERROR) {
                return;
            }
            if (itsError != NO_ERROR) {
                error = itsError;
                return;
            }
            sum += number;
            least = count == 0 ? number : Math.min(least, number);
            greatest = count == 0 ? number : Math.max(greatest, number);
            count++;
        }

        int errorOf(int function) {
            boolean needsOne = function == MIN || function == MAX;
            return error == NO_ERROR && needsOne && count == 0 ? NO_NUMBER_MET : error;
        }

        long numberOf(int function) {
            switch (function) {
                case SUM:
                    return sum;
                case MIN:
                    return least;
                case MAX:
                    return greatest;
                default:
                    return count;
            }
        }
    }

    /**
     * Reads a text by the grammar and works it out on the way, from the values of the cells.
     * Each method of a part of the grammar answers that part's number and leaves its error in
     * the field error; with an error the number is 0.
     */
    private static final class Reader {
        private final Values values;
        private final Tally[] tallies;
        private char[] text;
        private int length;
        private int at;
        private boolean wrong;
        private long references;
        private long number;
        private int error;

        Reader() {
            values = new Values();
            // Of all brackets that are open at once each has a depth of its own: one tally a depth will do.
            tallies = new Tally[DEEPEST + 1];
            for (int depth = 0; depth <= DEEPEST; depth++) {
                tallies[depth] = new Tally();
            }
            text = new char[0];
        }

        /** Whether the first characters of a text, length of them, are a content. */
        boolean read(char[] characters, int itsLength) {
            text = characters;
            length = itsLength;
            at = 0;
            wrong = false;
            references = 0;
            if (accept('=')) {
                number = expression(0);
            } else if (accept('-')) {
                number = -digits();
            } else {
                number = digits();
            }
            return !wrong && at == length;
        }

        private long expression(int depth) {
            long left = sum(depth);
            int operator = comparison();
            if (operator == NO_OPERATOR) {
                return left;
            }
            int leftError = error;
            long right = sum(depth);
            return joined(operator, left, leftError, right);
        }

        private long sum(int depth) {
            long left = product(depth);
            for (int i = 0; i < LONGEST && (peek(0) == '+' || peek(0) == '-'); i++) {
                int operator = peek(0);
                at++;
                int leftError = error;
                long right = product(depth);
                left = joined(operator, left, leftError, right);
            }
            return left;
        }

        private long product(int depth) {
            long left = factor(depth);
            for (int i = 0; i < LONGEST && (peek(0) == '*' || peek(0) == '/' || peek(0) == '%'); i++) {
                int operator = peek(0);
                at++;
                int leftError = error;
                long right = factor(depth);
                left = joined(operator, left, leftError, right);
            }
            return left;
        }

        private long factor(int depth) {
            boolean negative = false;
            for (int i = 0; i < LONGEST && accept('-'); i++) {
                negative = !negative;
            }
            long unsigned = unsignedFactor(depth);
            return negative ? -unsigned : unsigned;
        }

        private long unsignedFactor(int depth) {
            if (isDigit(peek(0))) {
                return digits();
            }
            int cell = name();
            if (cell != BAD) {
                return valueOf(cell);
            }
            // Everything that is left begins with a bracket of its own.
            if (depth >= DEEPEST) {
                return refuse();
            }
            if (accept('(')) {
                return bracketed(depth + 1);
            }
            if (acceptWord("IF(")) {
                return choice(depth + 1);
            }
            int which = functionName();
            return which == BAD ? refuse() : function(which, depth + 1);
        }

        private long digits() {
            long digits = 0;
            int count = 0;
            while (count < MOST_DIGITS && isDigit(peek(0))) {
                digits = 10 * digits + (peek(0) - '0');
                at++;
                count++;
            }
            error = NO_ERROR;
            return count == 0 || isDigit(peek(0)) ? refuse() : digits;
        }

        private long valueOf(int cell) {
            references |= bit(cell);
            error = values.errorOf(cell);
            return values.numberOf(cell);
        }

        private long bracketed(int depth) {
            long inside = expression(depth);
            need(')');
            return inside;
        }

        private long choice(int depth) {
            long test = expression(depth);
            int testError = error;
            need(',');
            long second = expression(depth);
            int secondError = error;
            need(',');
            long third = expression(depth);
            need(')');
            // All three had to be read; of the one that is not taken nothing is kept. The third's error
            // is the one that stands in the field already.
            if (testError != NO_ERROR) {
                error = testError;
                return 0;
            }
            if (test == 0) {
                return third;
            }
            error = secondError;
            return second;
        }

        private int functionName() {
            if (acceptWord("SUM(")) {
                return SUM;
            }
            if (acceptWord("MIN(")) {
                return MIN;
            }
            if (acceptWord("MAX(")) {
                return MAX;
            }
            return acceptWord("COUNT(") ? COUNT : BAD;
        }

        private long function(int which, int depth) {
            Tally tally = tallies[depth];
            tally.start();
            argument(tally, depth);
            for (int i = 0; i < LONGEST && accept(','); i++) {
                argument(tally, depth);
            }
            need(')');
            error = tally.errorOf(which);
            return error == NO_ERROR ? tally.numberOf(which) : 0;
        }

        private void argument(Tally tally, int depth) {
            // A colon can stand behind a name alone, and names have two characters.
            if (peek(2) != ':') {
                long met = expression(depth);
                tally.meet(met, error);
                return;
            }
            int one = name();
            at++;
            int other = name();
            if (one == BAD || other == BAD) {
                refuse();
            } else {
                range(one, other, tally);
            }
        }

        private void range(int one, int other, Tally tally) {
            int lastRow = Math.max(one / SIDE, other / SIDE);
            int lastColumn = Math.max(one % SIDE, other % SIDE);
            for (int row = Math.min(one / SIDE, other / SIDE); row <= lastRow; row++) {
                for (int column = Math.min(one % SIDE, other % SIDE); column <= lastColumn; column++) {
                    int cell = SIDE * row + column;
                    references |= bit(cell);
                    if (values.kindOf(cell) != EMPTY) {
                        tally.meet(values.numberOf(cell), values.errorOf(cell));
                    }
                }
            }
        }

        /** The cell whose name stands next, or BAD and nothing read. */
        private int name() {
            int column = peek(0) - 'A';
            int row = peek(1) - '1';
            if (column < 0 || column >= SIDE || row < 0 || row >= SIDE) {
                return BAD;
            }
            at += 2;
            return SIDE * row + column;
        }

        private int comparison() {
            if (acceptWord("<>")) {
                return UNEQUAL;
            }
            if (acceptWord("<=")) {
                return AT_MOST;
            }
            if (acceptWord(">=")) {
                return AT_LEAST;
            }
            if (accept('<')) {
                return '<';
            }
            if (accept('>')) {
                return '>';
            }
            return accept('=') ? '=' : NO_OPERATOR;
        }

        /** An operation with two sides; the right one's error stands in the field still. */
        private long joined(int operator, long left, int leftError, long right) {
            if (leftError != NO_ERROR) {
                error = leftError;
                return 0;
            }
            if (error != NO_ERROR) {
                return 0;
            }
            switch (operator) {
                case '+':
                    return left + right;
                case '-':
                    return left - right;
                case '*':
                    return left * right;
                case '/':
                case '%':
                    return divided(operator, left, right);
                default:
                    return holds(operator, left, right) ? 1 : 0;
            }
        }

        private long divided(int operator, long left, long right) {
            if (right == 0) {
                error = DIVIDED_BY_ZERO;
                return 0;
            }
            return operator == '/' ? left / right : left % right;
        }

        private static boolean holds(int operator, long left, long right) {
            switch (operator) {
                case UNEQUAL:
                    return left != right;
                case AT_MOST:
                    return left <= right;
                case AT_LEAST:
                    return left >= right;
                case '<':
                    return left < right;
                case '>':
                    return left > right;
                default:
                    return left == right;
            }
        }

        private static boolean isDigit(char character) {
            return character >= '0' && character <= '9';
        }

        private char peek(int ahead) {
            return at + ahead < length ? text[at + ahead] : END;
        }

        private boolean accept(char character) {
            if (peek(0) != character) {
                return false;
            }
            at++;
            return true;
        }

        private boolean acceptWord(String word) {
            for (int i = 0; i < word.length(); i++) {
                if (peek(i) != word.charAt(i)) {
                    return false;
                }
            }
            at += word.length();
            return true;
        }

        private void need(char character) {
            if (peek(0) == character) {
                at++;
            } else {
                refuse();
            }
        }

        /** The text is no content: nothing more of it is read, so that every loop over it ends. */
        private long refuse() {
            wrong = true;
            at = length;
            return 0;
        }
    }
}
