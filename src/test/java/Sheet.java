/**
 * A sheet with cells by their names and with exceptions as answers. It makes sure that no object is used for
 * more calls than the document allows, since what later calls answer is free.
 */
final class Sheet {
    static final String ARGUMENT = "throws.IllegalArgumentException";
    static final String STATE = "throws.IllegalStateException";
    static final String ELEMENT = "throws.NoSuchElementException";
    static final String ARITHMETIC = "throws.ArithmeticException";

    /** What is no cell: next to the bounds, farther off, and such as wrap or mask into 0 .. 63. */
    static final int[] NO_CELLS = {
        -1, 64, -2, 65, -64, 127, 128, -128, 255, 256, 65536, Integer.MAX_VALUE, Integer.MIN_VALUE, Integer.MIN_VALUE + 1,
    };

    static final int MOST_CALLS = 512;

    private final RecalcSheet sheet = new RecalcSheet();
    private int calls;

    private RecalcSheet call() {
        calls++;
        if (calls > MOST_CALLS) {
            throw new AssertionError("the test makes more than 512 calls on one object");
        }
        return sheet;
    }

    int calls() {
        return calls;
    }

    static int cell(String name) {
        return 8 * (name.charAt(1) - '1') + name.charAt(0) - 'A';
    }

    static String name(int cell) {
        return "" + (char) ('A' + cell % 8) + (char) ('1' + cell / 8);
    }

    int type(long characters, int n) {
        return call().type(characters, n);
    }

    /** Types a text, eight characters a call: the last call's answer, 0 without one. */
    int type(String text) {
        int answer = 0;
        for (int from = 0; from < text.length(); from += 8) {
            String part = text.substring(from, Math.min(text.length(), from + 8));
            answer = type(packed(part), part.length());
        }
        return answer;
    }

    static long packed(String part) {
        long characters = 0;
        for (char c : part.toCharArray()) {
            characters = characters << 8 | c;
        }
        return characters;
    }

    int wipe() {
        return call().wipe();
    }

    String enter(int cell) {
        try {
            return String.valueOf(call().enter(cell));
        } catch (RuntimeException e) {
            return "throws." + e.getClass().getSimpleName();
        }
    }

    /** Types a text and enters it; when it is refused it stays typed. */
    String enter(String name, String text) {
        type(text);
        return enter(cell(name));
    }

    /** For what a test starts from: the text has to be taken. */
    Sheet with(String name, String text) {
        String answer = enter(name, text);
        if (answer.startsWith("throws")) {
            throw new AssertionError(text + " was not taken by " + name + ": " + answer);
        }
        return this;
    }

    String clear(int cell) {
        try {
            return String.valueOf(call().clear(cell));
        } catch (RuntimeException e) {
            return "throws." + e.getClass().getSimpleName();
        }
    }

    String clear(String name) {
        return clear(cell(name));
    }

    String undo() {
        try {
            return String.valueOf(call().undo());
        } catch (RuntimeException e) {
            return "throws." + e.getClass().getSimpleName();
        }
    }

    String value(int cell) {
        try {
            return String.valueOf(call().value(cell));
        } catch (RuntimeException e) {
            return "throws." + e.getClass().getSimpleName();
        }
    }

    int kind(int cell) {
        return call().kind(cell);
    }

    int content(int cell, int i) {
        return call().content(cell, i);
    }

    long refers(int cell) {
        return call().refers(cell);
    }

    int place(int cell) {
        return call().place(cell);
    }

    int changed(int i) {
        return call().changed(i);
    }

    int worked() {
        return call().worked();
    }

    int log() {
        return call().log();
    }

    /** "empty", a number, "error 1" or "error 2", if value() and kind() agree on it. */
    String shows(String name) {
        String value = value(cell(name));
        int kind = kind(cell(name));
        if (kind == 0 && value.equals("0")) {
            return "empty";
        }
        if (kind == 1 && !value.startsWith("throws")) {
            return value;
        }
        if ((kind == 2 || kind == 3) && value.equals(ARITHMETIC)) {
            return "error " + (kind - 1);
        }
        return "kind " + kind + " with value " + value;
    }

    String content(String name) {
        StringBuilder text = new StringBuilder();
        for (int i = 0; i <= 40; i++) {
            int character = content(cell(name), i);
            if (character == RecalcSheet.BAD) {
                break;
            }
            text.append((char) character);
        }
        return text.toString();
    }

    /** The changed cells by their names. */
    String changed() {
        StringBuilder names = new StringBuilder();
        for (int i = 0; i <= 64; i++) {
            int cell = changed(i);
            if (cell == RecalcSheet.BAD) {
                break;
            }
            names.append(i == 0 ? "" : " ").append(name(cell));
        }
        return names.toString();
    }

    /** The places of some cells, as "A1 B1". */
    String places(String names) {
        StringBuilder places = new StringBuilder();
        for (String name : names.split(" ")) {
            places.append(places.length() == 0 ? "" : " ").append(place(cell(name)));
        }
        return places.toString();
    }

    /** How many cells do not stand where they stood at first. */
    int moved() {
        int moved = 0;
        for (int cell = 0; cell < 64; cell++) {
            moved += place(cell) == cell ? 0 : 1;
        }
        return moved;
    }
}
