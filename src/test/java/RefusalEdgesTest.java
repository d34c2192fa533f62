/**
 * "What throws leaves everything as it was; what may be thrown is tested in the order in which it is named": two
 * sheets live the same life, one of them with a call that throws, and must not differ in anything afterwards.
 */
public final class RefusalEdgesTest {
    private static final Check check = new Check();

    private interface Call {
        String on(Sheet sheet);
    }

    public static void main(String[] args) {
        enterThrows();
        clearThrows();
        undoThrows();
        valueThrows();
        badLeavesEverything();
        inTheOrderInWhichItIsNamed();
        check.end();
    }

    /** Numbers, errors, moved places, a log with some entries, changed cells, and something typed. */
    private static Sheet lived(String typed) {
        Sheet sheet = new Sheet().with("A1", "=H8").with("B1", "=A1/C1").with("H8", "6").with("D1", "=SUM(A1:C1)")
                .with("E1", "=MIN(G1:H1)").with("C1", "2");
        sheet.type(typed);
        return sheet;
    }

    /** With a rest that makes a content of what is typed, or null when none does. */
    private static void leavesEverything(String what, String typed, String rest, String want, Call call) {
        Sheet one = lived(typed);
        Sheet other = lived(typed);
        check.due(what, call.on(one), want);
        same(what, one, other, typed);
        if (rest != null) {
            one = lived(typed);
            check.due(what, call.on(one), want);
            sameTyped(what, one, typed, rest);
        }
        one = lived(typed);
        other = lived(typed);
        check.due(what, call.on(one), want);
        check.due(what + " twice", call.on(one), want);
        sameFuture(what, one, other);
    }

    private static void same(String what, Sheet one, Sheet other, String typed) {
        check.due(what + ": log", one.log(), other.log());
        check.due(what + ": worked", one.worked(), other.worked());
        check.due(what + ": changed", one.changed(), other.changed());
        for (int cell = 0; cell < 64; cell++) {
            String name = Sheet.name(cell);
            check.due(what + ": place of " + name, one.place(cell), other.place(cell));
            check.due(what + ": references of " + name, one.refers(cell), other.refers(cell));
            check.due(what + ": value of " + name, one.shows(name), other.shows(name));
            check.due(what + ": content of " + name, one.content(cell, 0), other.content(cell, 0));
        }
        for (String name : new String[] {"A1", "B1", "C1", "D1", "E1", "H8"}) {
            check.due(what + ": content of " + name, one.content(name), other.content(name));
        }
        check.due(what + ": typed", one.wipe(), typed.length());
    }

    private static void sameTyped(String what, Sheet one, String typed, String rest) {
        one.type(rest);
        check.due(what + ": what is typed is entered", one.enter(Sheet.cell("G2")), "1");
        check.due(what + ": as it was", one.content("G2"), typed + rest);
        check.due(what + ": nothing more", one.wipe(), 0);
    }

    private static void sameFuture(String what, Sheet one, Sheet other) {
        one.wipe();
        other.wipe();
        for (int i = 0; i < 7; i++) {
            check.due(what + ": undo " + i, one.undo(), other.undo());
            check.due(what + ": changed by undo " + i, one.changed(), other.changed());
            check.due(what + ": worked by undo " + i, one.worked(), other.worked());
            check.due(what + ": log behind undo " + i, one.log(), other.log());
        }
        check.due(what + ": the places then", one.places("A1 B1 C1 D1 E1 F1 G1 H1 H8"),
                other.places("A1 B1 C1 D1 E1 F1 G1 H1 H8"));
        check.due(what + ": what comes then", one.enter("C1", "=A1"), other.enter("C1", "=A1"));
    }

    private static void enterThrows() {
        check.says("What throws leaves everything as it was: enter");
        for (int cell : Sheet.NO_CELLS) {
            leavesEverything("enter(" + cell + ")", "=D1", "", Sheet.ARGUMENT, sheet -> sheet.enter(cell));
        }
        String[][] texts = {
            {"", "7"}, {"=", "D1"}, {"-", "7"}, {"=H8+", "1"}, {"=SUM(A1:H1", ")"}, {"=IF(A1,B1", ",1)"},
            {"=((((((((1", "))))))))"}, {"=" + "A1+".repeat(12), "H8"}, {"=G1+1234567890", null},
            {"=(((((((((1)))))))))", null}, {"12 ", null}, {"=" + "A1+".repeat(13), null},
        };
        for (String[] text : texts) {
            leavesEverything("enter '" + text[0] + "' into an empty cell", text[0], text[1], Sheet.ARGUMENT,
                    sheet -> sheet.enter(Sheet.cell("F1")));
            leavesEverything("enter '" + text[0] + "' into a full cell", text[0], text[1], Sheet.ARGUMENT,
                    sheet -> sheet.enter(Sheet.cell("A1")));
        }
        leavesEverything("H8 to itself", "=H8", "", Sheet.STATE, sheet -> sheet.enter(Sheet.cell("H8")));
        leavesEverything("an empty cell to itself", "=F1", "", Sheet.STATE, sheet -> sheet.enter(Sheet.cell("F1")));
        leavesEverything("a round of two", "=A1", "", Sheet.STATE, sheet -> sheet.enter(Sheet.cell("H8")));
        leavesEverything("a round of three", "=D1", "", Sheet.STATE, sheet -> sheet.enter(Sheet.cell("H8")));
        leavesEverything("a round by a range", "=SUM(G7:H8,D1:D1)", "", Sheet.STATE,
                sheet -> sheet.enter(Sheet.cell("C1")));
        leavesEverything("a round behind good ones", "=F1+G1+H1+B1", "", Sheet.STATE,
                sheet -> sheet.enter(Sheet.cell("A1")));
    }

    private static void clearThrows() {
        check.says("What throws leaves everything as it was: clear");
        for (int cell : Sheet.NO_CELLS) {
            leavesEverything("clear(" + cell + ")", "=D1", "", Sheet.ARGUMENT, sheet -> sheet.clear(cell));
        }
    }

    private static void undoThrows() {
        check.says("What throws leaves everything as it was: undo");
        Sheet one = lived("=A1");
        Sheet other = lived("=A1");
        for (int i = 0; i < 6; i++) {
            check.due("undo " + i, one.undo(), other.undo());
        }
        check.due("no more", one.undo(), Sheet.ELEMENT);
        check.due("no more again", one.undo(), Sheet.ELEMENT);
        same("undo without a log", one, other, "=A1");
        Sheet full = new Sheet();
        for (int i = 1; i <= 22; i++) {
            full.with("A1", String.valueOf(i));
        }
        for (int i = 0; i < 20; i++) {
            full.undo();
        }
        check.due("no more of 22", full.undo(), Sheet.ELEMENT);
        check.due("the second stays", full.shows("A1"), "2");
        check.due("changed stays", full.changed(), "A1");
        check.due("worked stays", full.worked(), 1);
    }

    private static void valueThrows() {
        check.says("What throws leaves everything as it was: value");
        for (int cell : Sheet.NO_CELLS) {
            leavesEverything("value(" + cell + ")", "=D1", "", Sheet.ARGUMENT, sheet -> sheet.value(cell));
        }
        leavesEverything("value of an error", "=D1", "", Sheet.ARITHMETIC, sheet -> sheet.value(Sheet.cell("E1")));
    }

    /** No throw, but a refusal all the same. */
    private static void badLeavesEverything() {
        check.says("BAD (and none of them is typed)");
        leavesEverything("type none", "=D1", "", "-1", sheet -> String.valueOf(sheet.type(0x31, 0)));
        leavesEverything("type nine", "=D1", "", "-1", sheet -> String.valueOf(sheet.type(0x3131_3131_3131_3131L, 9)));
        leavesEverything("type a wrong one", "=D1", "", "-1", sheet -> String.valueOf(sheet.type(0x311F, 2)));
        leavesEverything("type too many", "=" + "1+".repeat(16), "1", "-1",
                sheet -> String.valueOf(sheet.type(0x3131_3131_3131_3131L, 8)));
        check.says("0, and no change is made, when it was empty");
        leavesEverything("clear an empty one", "=D1", "", "0", sheet -> sheet.clear("F1"));
        check.says("BAD when there is none");
        leavesEverything("look at what there is not", "=D1", "", "-1 -1 -1 -1 0",
                sheet -> sheet.kind(64) + " " + sheet.place(-1) + " " + sheet.content(0, 3)
                + " " + sheet.changed(64) + " " + sheet.refers(64));
    }

    private static void inTheOrderInWhichItIsNamed() {
        check.says("what may be thrown is tested in the order in which it is named");
        check.due("no cell, no content", new Sheet().enter(64), Sheet.ARGUMENT);
        Sheet sheet = new Sheet();
        check.due("no content and a round", sheet.enter("A1", "=A1+"), Sheet.ARGUMENT);
        check.due("no content and a round of two", new Sheet().with("A1", "=B1").enter("B1", "=A1)"), Sheet.ARGUMENT);
        sheet = new Sheet().with("A1", "=B1");
        sheet.type("=A1");
        check.due("no cell and what would be a round", sheet.enter(-1), Sheet.ARGUMENT);
        check.due("a round", sheet.enter(1), Sheet.STATE);
        check.due("the same text in another cell", sheet.enter(2), "1");
        sheet.with("D1", "=1/0");
        check.due("no cell", sheet.value(64), Sheet.ARGUMENT);
        check.due("an error", sheet.value(3), Sheet.ARITHMETIC);
    }
}
