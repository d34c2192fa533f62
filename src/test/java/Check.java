/** Counts answers that are not as due, and makes calls whose answers may be exceptions. */
final class Check {
    private int right;
    private int wrong;
    private String sentence = "";

    /** What is checked from here on stands under these words of the document. */
    void says(String words) {
        sentence = "[" + words + "] ";
    }

    void due(String what, Object got, Object want) {
        if (got.equals(want)) {
            right++;
            return;
        }
        wrong++;
        // A broken program may give thousands of these; the first ones tell enough.
        if (wrong <= 50) {
            System.out.println(sentence + what + " answered " + got + ", due is " + want);
        }
    }

    void end() {
        System.out.println(right + " answers as due, " + wrong + " not");
        if (wrong != 0) {
            System.exit(1);
        }
    }

    /** Types a text of any length, eight characters a call: the last call's answer. */
    static int type(RecalcSheet sheet, String text) {
        int answer = 0;
        for (int from = 0; from < text.length(); from += 8) {
            String part = text.substring(from, Math.min(text.length(), from + 8));
            answer = sheet.type(packed(part), part.length());
        }
        return answer;
    }

    static long packed(String part) {
        long characters = 0;
        for (char c : part.toCharArray()) {
            characters = characters << 8 | c;
        }
        return characters;
    }

    static String enter(RecalcSheet sheet, int cell) {
        try {
            return String.valueOf(sheet.enter(cell));
        } catch (RuntimeException e) {
            return e.getClass().getName();
        }
    }

    /** Wipes, types and enters; what was refused is wiped. */
    static String enter(RecalcSheet sheet, String cell, String text) {
        sheet.wipe();
        type(sheet, text);
        String answer = enter(sheet, cell(cell));
        sheet.wipe();
        return answer;
    }

    static String clear(RecalcSheet sheet, int cell) {
        try {
            return String.valueOf(sheet.clear(cell));
        } catch (RuntimeException e) {
            return e.getClass().getName();
        }
    }

    static String undo(RecalcSheet sheet) {
        try {
            return String.valueOf(sheet.undo());
        } catch (RuntimeException e) {
            return e.getClass().getName();
        }
    }

    static String value(RecalcSheet sheet, int cell) {
        try {
            return String.valueOf(sheet.value(cell));
        } catch (RuntimeException e) {
            return e.getClass().getName();
        }
    }

    static int cell(String name) {
        return 8 * (name.charAt(1) - '1') + name.charAt(0) - 'A';
    }

    static String content(RecalcSheet sheet, int cell) {
        StringBuilder text = new StringBuilder();
        for (int i = 0; sheet.content(cell, i) != RecalcSheet.BAD; i++) {
            text.append((char) sheet.content(cell, i));
        }
        return text.toString();
    }

    /** The cells of the latest change, by numbers. */
    static String changed(RecalcSheet sheet) {
        StringBuilder cells = new StringBuilder();
        for (int i = 0; sheet.changed(i) != RecalcSheet.BAD; i++) {
            cells.append(i == 0 ? "" : " ").append(sheet.changed(i));
        }
        return cells.toString();
    }
}
