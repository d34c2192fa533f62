/** For each promise ordinary inputs, the edges that the document names, and wrong inputs. */
public final class PromisesTest {
    private static final String NO_ARGUMENT = "java.lang.IllegalArgumentException";
    private static final String NO_STATE = "java.lang.IllegalStateException";
    private static final String NO_ELEMENT = "java.util.NoSuchElementException";
    private static final String NO_ARITHMETIC = "java.lang.ArithmeticException";
    private static final int[] NO_CELLS = {-1, 64, 65, -64, Integer.MAX_VALUE, Integer.MIN_VALUE};
    private static final String FORTY = "=" + "1+".repeat(19) + "1";

    private static final Check check = new Check();

    public static void main(String[] args) {
        newObject();
        type();
        typeRefuses();
        wipe();
        enterTakesContents();
        enterRefusesTexts();
        enterRefusesRounds();
        enterTestsInOrder();
        enterIsAChange();
        clear();
        undo();
        undoBringsTheOrderUpToDate();
        value();
        valueOfOperations();
        valueOfFunctions();
        kind();
        content();
        refers();
        place();
        placeMovesOnlyWhatMust();
        changed();
        worked();
        log();
        objectsAreApart();
        check.end();
    }

    private static void newObject() {
        RecalcSheet sheet = new RecalcSheet();
        for (int cell = 0; cell < 64; cell++) {
            check.due("new: kind " + cell, sheet.kind(cell), 0);
            check.due("new: content " + cell, sheet.content(cell, 0), -1);
            check.due("new: refers " + cell, sheet.refers(cell), 0L);
            check.due("new: place " + cell, sheet.place(cell), cell);
            check.due("new: value " + cell, Check.value(sheet, cell), "0");
        }
        check.due("new: changed", sheet.changed(0), -1);
        check.due("new: worked", sheet.worked(), 0);
        check.due("new: log", sheet.log(), 0);
        check.due("new: wipe", sheet.wipe(), 0);
        check.due("new: undo", Check.undo(sheet), NO_ELEMENT);
        check.due("new: enter", Check.enter(sheet, 0), NO_ARGUMENT);
    }

    private static void type() {
        RecalcSheet sheet = new RecalcSheet();
        check.due("type: one", sheet.type('1', 1), 1);
        check.due("type: two more", sheet.type('2' << 8 | '3', 2), 3);
        check.due("type: what stands above n bytes is not looked at",
                sheet.type(0xFF00_0000_0000_0000L | '4', 1), 4);
        Check.enter(sheet, 0);
        check.due("type: the highest first", Check.content(sheet, 0), "1234");
        check.due("type: eight", sheet.type(Check.packed("=1+2+3+4"), 8), 8);
        Check.enter(sheet, 1);
        check.due("type: eight, the highest first", Check.content(sheet, 1), "=1+2+3+4");
        check.due("type: forty", Check.type(sheet, FORTY), 40);
        check.due("type: forty are a content", Check.enter(sheet, 2), "1");
        check.due("type: forty are kept", Check.content(sheet, 2), FORTY);
        check.due("type: character 32", sheet.type(32, 1), 1);
        check.due("type: character 126", sheet.type(126, 1), 2);
    }

    private static void typeRefuses() {
        RecalcSheet sheet = new RecalcSheet();
        for (int n : new int[] {0, -1, 9, 10, Integer.MAX_VALUE, Integer.MIN_VALUE}) {
            check.due("type: n " + n, sheet.type(Check.packed("11111111"), n), -1);
        }
        for (int character : new int[] {0, 31, 127, 128, 160, 255}) {
            check.due("type: character " + character, sheet.type(character, 1), -1);
            check.due("type: lowest " + character, sheet.type('1' << 8 | character, 2), -1);
            check.due("type: highest " + character, sheet.type(character << 8 | '1', 2), -1);
        }
        check.due("type: highest of eight", sheet.type(0x8031_3131_3131_3131L, 8), -1);
        check.due("type: nothing of it is typed", sheet.wipe(), 0);
        Check.type(sheet, FORTY.substring(0, 39));
        check.due("type: 41", sheet.type(Check.packed("11"), 2), -1);
        check.due("type: 47", sheet.type(Check.packed("11111111"), 8), -1);
        check.due("type: 40", sheet.type('1', 1), 40);
        check.due("type: one above 40", sheet.type('1', 1), -1);
        check.due("type: the forty stand", sheet.wipe(), 40);
    }

    private static void wipe() {
        RecalcSheet sheet = new RecalcSheet();
        Check.enter(sheet, "A1", "7");
        Check.type(sheet, "=A1+1");
        check.due("wipe: how many there were", sheet.wipe(), 5);
        check.due("wipe: none now", sheet.wipe(), 0);
        check.due("wipe: typing begins anew", sheet.type('8', 1), 1);
        check.due("wipe: only the new", Check.enter(sheet, 1), "1");
        check.due("wipe: only the new is there", Check.content(sheet, 1), "8");
        check.due("wipe: cells stay", Check.value(sheet, 0), "7");
        check.due("wipe: the log stays", sheet.log(), 2);
    }

    private static void enterTakesContents() {
        String[] contents = {
            "0", "9", "-0", "-1", "007", "123456789", "-123456789", "000000000",
            "=1", "=-1", "=---1", "=123456789", "=A1", "=H8", "=-A1", "=(1)", "=-(1)", "=--(-1)",
            "=1+2", "=1-2", "=1--2", "=1*-2", "=1/2", "=1%2", "=1+2*3-4/5%6",
            "=1<2", "=1>2", "=1=2", "=1<>2", "=1<=2", "=1>=2", "=1<-2", "=1=-2", "=1<>-2",
            "=(1<2)<3", "=1<(2<3)", "=1+1<2+2", "=(1=2)+(3=4)",
            "=IF(1,2,3)", "=IF(A1<B1,C1,D1)", "=IF(IF(1,2,3),IF(1,2,3),IF(1,2,3))", "=-IF(1,2,3)",
            "=SUM(1)", "=SUM(1,2)", "=SUM(A1)", "=SUM(A1:A1)", "=SUM(A1:B2)", "=SUM(B2:A1)", "=SUM(A2:B1)",
            "=SUM(A1:B2,C3,4,D4:D5)", "=MIN(1<2)", "=MAX(-1)", "=COUNT(A1:H7,H8:H8)", "=SUM(-A1)",
            "=SUM(SUM(A1:B2),MIN(1),MAX(1),COUNT(1))", "=SUM(A1+B1,A1:B1)", "=SUM(1)+MIN(2)*MAX(3)",
            nested("=", 8, ""), nested("=", 8, "+1"), nested("=SUM(", 7, ")"), nested("=IF(", 7, ",1,1)"),
            nested("=IF(1,2,", 7, ")"), nested("=(((((((MIN(", 0, "))))))))"), nested("=", 8, "") + nested("+", 8, ""),
            "=SUM(SUM(SUM(SUM(SUM(SUM(SUM(1)))))))", "=" + "-".repeat(38) + "1", FORTY,
        };
        for (String text : contents) {
            RecalcSheet sheet = new RecalcSheet();
            check.due("typed " + text, Check.type(sheet, text), text.length());
            check.due("enter " + text, Check.enter(sheet, 62), "1");
            check.due("content " + text, Check.content(sheet, 62), text);
            check.due("nothing is typed behind " + text, sheet.wipe(), 0);
        }
    }

    private static String nested(String before, int deep, String behind) {
        return before + "(".repeat(deep) + "1" + ")".repeat(deep) + behind;
    }

    private static void enterRefusesTexts() {
        String[] texts = {
            "", "-", "--1", "+1", "1234567890", "-1234567890", "0000000001", "1+1", "1 ", " 1", "1-", "A1", "(1)",
            "1=", "=", "==1", "= 1", "=1 ", "=1 +2", "=+1", "=1+", "=1+*2", "=*1", "=-", "=1-", "=1234567890",
            "=0000000000", "=a1", "=A0", "=A9", "=I1", "=A", "=A12", "=AA1", "=1A", "=A1A1", "=A1B1", "=1(2)",
            "=()", "=(1", "=1)", "=(1))", "=((1)", "=[1]", "=1<2<3", "=1=2=3", "=1<2=3", "=1=<2", "=1=>2", "=1><2",
            "=1!2", "=1<", "=<1", "=1<>", "=1<==2", "=1<<2", "=1>>2", "=1==2", "=1<>=2",
            "=IF", "=IF(", "=IF()", "=IF(1)", "=IF(1,2)", "=IF(1,2,3", "=IF(1,2,3,4)", "=IF(,2,3)", "=IF(1,,3)",
            "=IF(A1:B2,1,2)", "=IF(1,A1:B2,2)", "=IF(1,2,A1:B2)", "=IF1,2,3", "=if(1,2,3)", "=IF(1;2;3)",
            "=SUM", "=SUM(", "=SUM()", "=SUM(1", "=SUM(1,)", "=SUM(,1)", "=SUM(1,,2)", "=SUM1", "=SUMS(1)", "=SU(1)",
            "=MIN()", "=MAX()", "=COUNT()", "=COUN(1)", "=sum(1)", "=AVG(1)", "=SUM(1)2", "=SUM(1)(2)", "=SUM (1)",
            "=A1:B2", "=(A1:B2)", "=SUM((A1:B2))", "=SUM(A1:B2+1)", "=SUM(1+A1:B2)", "=SUM(-A1:B2)", "=SUM(A1:B2:C3)",
            "=SUM(A1:)", "=SUM(:A1)", "=SUM(A1:1)", "=SUM(12:A1)", "=SUM(A1:I1)", "=SUM(A1:A9)", "=SUM(A0:A1)",
            "=SUM(A1;B2)", "=SUM(A1:B2", "=SUM(A1::B2)", "=SUM(A1:B22)", "=SUM(1:2)", "=SUM(A1:-B2)", "=SUM(A1:(B2))",
            nested("=", 9, ""), nested("=SUM(", 8, ")"), nested("=IF(", 8, ",1,1)"), nested("=IF(1,2,", 8, ")"),
            nested("=((((((((MIN(", 0, ")))))))))"), nested("=", 8, "") + nested("+", 9, ""), nested("=", 12, ""),
            "=" + "(".repeat(39), "=" + "-".repeat(39), "=" + "IF(".repeat(13), "=" + "SUM(".repeat(9),
            "=1.5", "=1,2", "=1&2", "=1^2", "=\"1\"", "=$A$1", "=1~", "hello", "=TRUE", "=A1:", ":", ",",
        };
        for (String text : texts) {
            RecalcSheet sheet = new RecalcSheet();
            check.due("typed " + text, Check.type(sheet, text), text.length());
            check.due("refused " + text, Check.enter(sheet, 63), NO_ARGUMENT);
            check.due("still typed " + text, sheet.wipe(), text.length());
            check.due("still empty " + text, sheet.kind(63), 0);
            check.due("no change " + text, sheet.log(), 0);
        }
    }

    private static void enterRefusesRounds() {
        String[] toItself = {
            "=A1", "=-A1", "=1+A1*2", "=IF(1,2,A1)", "=IF(0,A1,2)", "=SUM(A1)", "=SUM(A1:A1)", "=SUM(A1:H8)",
            "=COUNT(H8:A1)", "=SUM(B1:A2)", "=0*A1", "=(A1)",
        };
        for (String text : toItself) {
            RecalcSheet sheet = new RecalcSheet();
            check.due("to itself " + text, Check.enter(sheet, "A1", text), NO_STATE);
        }
        RecalcSheet sheet = new RecalcSheet();
        Check.enter(sheet, "A1", "=B1");
        Check.enter(sheet, "B1", "=IF(1,5,C1)");
        check.due("round two", Check.enter(sheet, "B1", "=A1"), NO_STATE);
        Check.type(sheet, "=A1+1");
        int place = sheet.place(2);
        check.due("round three", Check.enter(sheet, 2), NO_STATE);
        check.due("a refused round leaves what is typed", sheet.wipe(), 5);
        check.due("a refused round leaves the place", sheet.place(2), place);
        check.due("a refused round leaves the cell", sheet.kind(2), 0);
        check.due("a refused round leaves the log", sheet.log(), 2);
        check.due("a refused round leaves worked", sheet.worked(), 2);
        check.due("a refused round leaves changed", Check.changed(sheet), "1 0");
        check.due("round by a range", Check.enter(sheet, "C1", "=SUM(H8:A1)"), NO_STATE);
        Check.enter(sheet, "H8", "=D1");
        check.due("round by the last place", Check.enter(sheet, "D1", "=H8"), NO_STATE);
        check.due("no round any more", Check.enter(sheet, "A1", "1"), "1");
        check.due("what was a round before", Check.enter(sheet, "C1", "=A1+1"), "1");
        check.due("its value", Check.value(sheet, 2), "2");
    }

    private static void enterTestsInOrder() {
        RecalcSheet sheet = new RecalcSheet();
        for (int cell : NO_CELLS) {
            Check.type(sheet, "1");
            check.due("enter no cell " + cell, Check.enter(sheet, cell), NO_ARGUMENT);
            check.due("still typed", sheet.wipe(), 1);
        }
        Check.type(sheet, "=A1+");
        check.due("no content before a round", Check.enter(sheet, 0), NO_ARGUMENT);
        sheet.wipe();
        Check.type(sheet, "=A1");
        check.due("no cell before a round", Check.enter(sheet, 64), NO_ARGUMENT);
        check.due("a round", Check.enter(sheet, 0), NO_STATE);
        check.due("what is typed can still be entered", Check.enter(sheet, 1), "1");
        check.due("nothing typed is no content", Check.enter(sheet, 0), NO_ARGUMENT);
    }

    private static void enterIsAChange() {
        RecalcSheet sheet = new RecalcSheet();
        Check.enter(sheet, "A1", "5");
        Check.enter(sheet, "B1", "=A1");
        check.due("the content it has", Check.enter(sheet, "A1", "5"), "0");
        check.due("is a change: log", sheet.log(), 3);
        check.due("is a change: worked", sheet.worked(), 1);
        check.due("is a change: changed", sheet.changed(0), -1);
        check.due("another one of the same value", Check.enter(sheet, "A1", "=2+3"), "0");
        check.due("its content", Check.content(sheet, 0), "=2+3");
        check.due("another value", Check.enter(sheet, "A1", "6"), "2");
        check.due("a number another number", Check.value(sheet, 1), "6");
        check.due("a number an error", Check.enter(sheet, "A1", "=1/0"), "2");
        check.due("error 1 error 2", Check.enter(sheet, "A1", "=MIN(C1:C2)"), "2");
        check.due("error 2 error 2", Check.enter(sheet, "A1", "=MAX(C1:C2)"), "0");
        check.due("error 2 error 1", Check.enter(sheet, "A1", "=1%0"), "2");
        check.due("error 1 a number", Check.enter(sheet, "A1", "0"), "2");
        check.due("empty a number 0", Check.enter(sheet, "H1", "0"), "1");
        oneErrorIsOneValue();
    }

    private static void oneErrorIsOneValue() {
        RecalcSheet sheet = new RecalcSheet();
        Check.enter(sheet, "A1", "=1/0");
        Check.enter(sheet, "B1", "=A1");
        String[] texts = {
            "=5%0", "=7/0+1", "=7+1/0", "=-(7/0)", "=--(7/0)", "=IF(7/0,8,9)", "=IF(1,7/0,9)", "=IF(0,8,7/0)",
            "=SUM(8,7/0)", "=MIN(7/0)", "=MAX(8,7/0,9)", "=COUNT(8,7/0)", "=A1", "=-A1", "=SUM(A1:A1)", "=A1<8", "=8=A1",
        };
        for (String text : texts) {
            check.due("error 1 as before: " + text, Check.enter(sheet, "B1", text), "0");
            check.due("is error 1: " + text, sheet.kind(1), 2);
        }
    }

    private static void clear() {
        RecalcSheet sheet = new RecalcSheet();
        for (int cell : NO_CELLS) {
            check.due("clear no cell " + cell, Check.clear(sheet, cell), NO_ARGUMENT);
        }
        check.due("clear an empty one", Check.clear(sheet, 0), "0");
        check.due("that is no change: log", sheet.log(), 0);
        check.due("that is no change: worked", sheet.worked(), 0);
        Check.enter(sheet, "A1", "5");
        Check.enter(sheet, "B1", "=A1+C1");
        Check.enter(sheet, "C1", "2");
        Check.type(sheet, "xy");
        check.due("clear an empty one behind a change", Check.clear(sheet, 9), "0");
        check.due("changed stays", Check.changed(sheet), "2 1");
        check.due("worked stays", sheet.worked(), 2);
        check.due("the log stays", sheet.log(), 3);
        int place = sheet.place(1);
        check.due("clear", Check.clear(sheet, 1), "1");
        check.due("clear: kind", sheet.kind(1), 0);
        check.due("clear: value", Check.value(sheet, 1), "0");
        check.due("clear: content", sheet.content(1, 0), -1);
        check.due("clear: refers", sheet.refers(1), 0L);
        check.due("clear: nothing moves", sheet.place(1), place);
        check.due("clear: changed", Check.changed(sheet), "1");
        check.due("clear: worked", sheet.worked(), 1);
        check.due("clear: log", sheet.log(), 4);
        check.due("clear: what is typed stays", sheet.wipe(), 2);
        Check.enter(sheet, "B1", "=A1");
        Check.enter(sheet, "D1", "=COUNT(A1:B1)");
        check.due("clear changes what refers to it", Check.clear(sheet, 0), "3");
        check.due("clear: in the order of places", Check.changed(sheet), "0 1 3");
        check.due("clear: a name stands for 0", Check.value(sheet, 1), "0");
        check.due("clear: left out of a range", Check.value(sheet, 3), "1");
        Check.enter(sheet, "A1", "0");
        check.due("clear a 0: it changes, a name of it does not", Check.clear(sheet, 0), "2");
        check.due("clear a 0: worked", sheet.worked(), 3);
        Check.enter(sheet, "E1", "=1/0");
        check.due("clear an error", Check.clear(sheet, 4), "1");
        check.due("clear an error: kind", sheet.kind(4), 0);
    }

    private static void undo() {
        RecalcSheet sheet = new RecalcSheet();
        check.due("undo nothing", Check.undo(sheet), NO_ELEMENT);
        Check.enter(sheet, "A1", "1");
        Check.enter(sheet, "B1", "=A1*2");
        Check.enter(sheet, "A1", "=1/0");
        Check.clear(sheet, 0);
        Check.type(sheet, "12");
        check.due("undo a clear", Check.undo(sheet), "2");
        check.due("undo a clear: content", Check.content(sheet, 0), "=1/0");
        check.due("undo a clear: kind", sheet.kind(0), 2);
        check.due("undo a clear: log", sheet.log(), 3);
        check.due("undo a clear: changed", Check.changed(sheet), "0 1");
        check.due("undo a clear: worked", sheet.worked(), 2);
        check.due("undo: what is typed stays", sheet.wipe(), 2);
        check.due("undo an enter", Check.undo(sheet), "2");
        check.due("undo an enter: content", Check.content(sheet, 0), "1");
        check.due("undo an enter: value", Check.value(sheet, 1), "2");
        check.due("undo to empty", Check.undo(sheet), "1");
        check.due("undo to empty: kind", sheet.kind(1), 0);
        check.due("undo to empty: refers", sheet.refers(1), 0L);
        check.due("undo to empty: worked", sheet.worked(), 1);
        check.due("undo the first", Check.undo(sheet), "1");
        check.due("undo the first: log", sheet.log(), 0);
        check.due("undo no more", Check.undo(sheet), NO_ELEMENT);
        check.due("undo no more: changed stays", Check.changed(sheet), "0");
        check.due("undo no more: worked stays", sheet.worked(), 1);
        Check.enter(sheet, "A1", "3");
        Check.enter(sheet, "A1", "3");
        check.due("undo the content it had already", Check.undo(sheet), "0");
        check.due("undo the content it had already: worked", sheet.worked(), 1);
        check.due("undo the content it had already: content", Check.content(sheet, 0), "3");
    }

    private static void undoBringsTheOrderUpToDate() {
        RecalcSheet sheet = new RecalcSheet();
        Check.enter(sheet, "A1", "=B1");
        check.due("places 1 0", sheet.place(0) * 10 + sheet.place(1), 10);
        Check.clear(sheet, 0);
        Check.enter(sheet, "B1", "=A1");
        check.due("places 0 1", sheet.place(0) * 10 + sheet.place(1), 1);
        Check.undo(sheet);
        check.due("nothing moves when a cell becomes empty", sheet.place(0) * 10 + sheet.place(1), 1);
        Check.undo(sheet);
        check.due("the order is for the old content again", sheet.place(0) * 10 + sheet.place(1), 10);
        check.due("the old content again", sheet.refers(0), 2L);
    }

    private static void value() {
        RecalcSheet sheet = new RecalcSheet();
        for (int cell : NO_CELLS) {
            check.due("value no cell " + cell, Check.value(sheet, cell), NO_ARGUMENT);
        }
        check.due("value of an empty one", Check.value(sheet, 63), "0");
        Check.enter(sheet, "H8", "-123456789");
        check.due("value of a number", Check.value(sheet, 63), "-123456789");
        Check.enter(sheet, "H8", "=1/0");
        check.due("value of error 1", Check.value(sheet, 63), NO_ARITHMETIC);
        Check.enter(sheet, "H8", "=MIN(A1:A2)");
        check.due("value of error 2", Check.value(sheet, 63), NO_ARITHMETIC);
    }

    /** A1 is error 1, B1 is error 2, C1 is the least long, D1 is empty, and A2 .. B3 have some numbers. */
    private static RecalcSheet prepared() {
        RecalcSheet sheet = new RecalcSheet();
        Check.enter(sheet, "A1", "=1/0");
        Check.enter(sheet, "B1", "=MIN(H8:H8)");
        // 2^21 to the third is 2^63, which wraps.
        Check.enter(sheet, "C1", "=2097152*2097152*2097152");
        Check.enter(sheet, "A2", "3");
        Check.enter(sheet, "B2", "-4");
        Check.enter(sheet, "A3", "5");
        return sheet;
    }

    private static void works(String text, String due) {
        RecalcSheet sheet = prepared();
        Check.enter(sheet, "G7", text);
        int kind = sheet.kind(Check.cell("G7"));
        String got = kind == 1 ? Check.value(sheet, Check.cell("G7")) : "error " + (kind - 1);
        check.due("value of " + text, got, due);
    }

    private static void valueOfOperations() {
        String[][] all = {
            {"5", "5"}, {"-5", "-5"}, {"-0", "0"}, {"007", "7"}, {"=007", "7"}, {"=--7", "7"}, {"=---7", "-7"},
            {"=2+3*4", "14"}, {"=(2+3)*4", "20"}, {"=10-3-2", "5"}, {"=100/10/5", "2"}, {"=2*3%4", "2"}, {"=7%4*2", "6"},
            {"=2-3-4*5%3/2", "-2"}, {"=-2*-3", "6"}, {"=2--3", "5"}, {"=-2+3", "1"}, {"=-(2+3)", "-5"}, {"=-2-3", "-5"},
            {"=7/2", "3"}, {"=-7/2", "-3"}, {"=7/-2", "-3"}, {"=-7/-2", "3"}, {"=7%3", "1"}, {"=-7%3", "-1"},
            {"=7%-3", "1"}, {"=-7%-3", "-1"}, {"=0/5", "0"}, {"=1/0", "error 1"}, {"=1%0", "error 1"}, {"=0/0", "error 1"},
            {"=1/D1", "error 1"}, {"=1%D1", "error 1"}, {"=1<2", "1"}, {"=2<1", "0"}, {"=1<1", "0"}, {"=1>2", "0"},
            {"=2>1", "1"}, {"=1>1", "0"}, {"=1=1", "1"}, {"=1=2", "0"}, {"=1<>1", "0"}, {"=1<>2", "1"}, {"=1<=1", "1"},
            {"=1<=2", "1"}, {"=2<=1", "0"}, {"=1>=1", "1"}, {"=1>=2", "0"}, {"=2>=1", "1"}, {"=1<-1", "0"}, {"=1+1=2", "1"},
            {"=1+(1=2)", "1"}, {"=(1<2)+(2<3)", "2"}, {"=-(1=1)", "-1"}, {"=2=1+1", "1"}, {"=3*2>5", "1"},
            {"=A2", "3"}, {"=D1", "0"}, {"=D1+1", "1"}, {"=-D1", "0"}, {"=D1=0", "1"}, {"=A2*B2", "-12"}, {"=-B2", "4"},
            {"=C1", "-9223372036854775808"}, {"=-C1", "-9223372036854775808"}, {"=C1-1", "9223372036854775807"},
            {"=C1*C1", "0"}, {"=C1*-1", "-9223372036854775808"}, {"=C1/-1", "-9223372036854775808"}, {"=C1%-1", "0"},
            {"=C1+C1", "0"}, {"=C1<0", "1"}, {"=C1-1>0", "1"}, {"=C1<C1-1", "1"}, {"=C1%10", "-8"},
            {"=A1", "error 1"}, {"=B1", "error 2"}, {"=-A1", "error 1"}, {"=-B1", "error 2"}, {"=--B1", "error 2"},
            {"=A1+B1", "error 1"}, {"=B1+A1", "error 2"}, {"=A1*0", "error 1"}, {"=0*B1", "error 2"}, {"=B1/0", "error 2"},
            {"=B1%0", "error 2"}, {"=1/0+B1", "error 1"}, {"=B1+1/0", "error 2"}, {"=A1=A1", "error 1"}, {"=B1<>A1", "error 2"},
            {"=1<B1", "error 2"}, {"=B1>=1", "error 2"}, {"=1-B1-A1", "error 2"}, {"=(B1)", "error 2"}, {"=0/B1", "error 2"},
            {"=1+B1*A1", "error 2"}, {"=1+A1*B1", "error 1"}, {"=1/0=B1", "error 1"},
        };
        for (String[] one : all) {
            works(one[0], one[1]);
        }
    }

    private static void valueOfFunctions() {
        String[][] all = {
            {"=IF(1,2,3)", "2"}, {"=IF(0,2,3)", "3"}, {"=IF(-1,2,3)", "2"}, {"=IF(D1,2,3)", "3"}, {"=IF(C1,2,3)", "2"},
            {"=IF(A1,2,3)", "error 1"}, {"=IF(B1,2,3)", "error 2"}, {"=IF(B1,A1,A1)", "error 2"}, {"=IF(1,2,A1)", "2"},
            {"=IF(0,A1,3)", "3"}, {"=IF(1,B1,A1)", "error 2"}, {"=IF(0,B1,A1)", "error 1"}, {"=IF(1,2,1/0)+1", "3"},
            {"=IF(0,1/0,4)*2", "8"}, {"=IF(A2>B2,A2,B2)", "3"}, {"=IF(1,IF(0,A1,7),B1)", "7"}, {"=-IF(1,2,3)", "-2"},
            {"=SUM(1)", "1"}, {"=SUM(1,2,3)", "6"}, {"=SUM(A2:B3)", "4"}, {"=SUM(B3:A2)", "4"}, {"=SUM(A3:B2)", "4"},
            {"=SUM(B2:A3)", "4"}, {"=SUM(D1:D1)", "0"}, {"=SUM(D1)", "0"}, {"=SUM(A2:A2,A2:A2,A2)", "9"},
            {"=MIN(A2:B3)", "-4"}, {"=MAX(A2:B3)", "5"}, {"=COUNT(A2:B3)", "3"}, {"=COUNT(A2:B3,1,2)", "5"},
            {"=MIN(3,1,2)", "1"}, {"=MAX(3,1,2)", "3"}, {"=MIN(7)", "7"}, {"=MAX(-7)", "-7"}, {"=MAX(-7,-9)", "-7"},
            {"=MIN(7,9)", "7"}, {"=MIN(D1)", "0"}, {"=MAX(D1)", "0"}, {"=COUNT(D1)", "1"}, {"=COUNT(D1:D1)", "0"},
            {"=COUNT(D1:F8)", "0"}, {"=MIN(D1:D1)", "error 2"}, {"=MAX(D1:F8)", "error 2"}, {"=MIN(D1:D2,D3:D4)", "error 2"},
            {"=MIN(D1:D2,7)", "7"}, {"=MAX(D1:D2,-7)", "-7"}, {"=SUM(D1:D2,7)", "7"}, {"=MIN(C1,1)", "-9223372036854775808"},
            {"=MAX(C1-1,1)", "9223372036854775807"}, {"=MAX(C1,C1)", "-9223372036854775808"}, {"=SUM(C1,C1)", "0"},
            {"=SUM(C1,-1)", "9223372036854775807"}, {"=SUM(A1:B1)", "error 1"}, {"=SUM(B1:A1)", "error 1"},
            {"=SUM(B1,A1)", "error 2"}, {"=SUM(A1,B1)", "error 1"}, {"=COUNT(A1:B1)", "error 1"}, {"=COUNT(B1)", "error 2"},
            {"=COUNT(1,B1,1/0)", "error 2"}, {"=MIN(D1:D2,A1)", "error 1"}, {"=MIN(D1:D2)+A1", "error 2"},
            {"=SUM(B1:B2,A1)", "error 2"}, {"=MAX(B1:C1)", "error 2"}, {"=SUM(1<2,2<1)", "1"}, {"=SUM(1,MAX(2,3),4)", "8"},
            {"=SUM(MIN(1,2),MAX(SUM(1,2),COUNT(1)))", "4"}, {"=SUM(SUM(1,2),SUM(3,4),5)", "15"}, {"=SUM(1)+SUM(2)", "3"},
            {"=SUM(IF(1,MIN(5,4),A1),(MAX(1,2)))", "6"}, {"=COUNT(MIN(1,2),MIN(3),4)", "3"}, {"=-SUM(1,2)", "-3"},
        };
        for (String[] one : all) {
            works(one[0], one[1]);
        }
        errorsAreMetRowByRow();
    }

    private static void errorsAreMetRowByRow() {
        RecalcSheet sheet = new RecalcSheet();
        Check.enter(sheet, "B1", "=1/0");
        Check.enter(sheet, "A2", "=MIN(H8:H8)");
        Check.enter(sheet, "D1", "=SUM(A1:B2)");
        check.due("B1 is met before A2", sheet.kind(3), 2);
        Check.enter(sheet, "D1", "=SUM(B2:A1)");
        check.due("B1 is met before A2, from the other corner", sheet.kind(3), 2);
        Check.clear(sheet, 1);
        check.due("A2 is met", sheet.kind(3), 3);
        Check.enter(sheet, "A1", "=1/0");
        Check.enter(sheet, "B1", "=MIN(H8:H8)");
        check.due("A1 is met before B1", sheet.kind(3), 2);
    }

    private static void kind() {
        RecalcSheet sheet = prepared();
        for (int cell : NO_CELLS) {
            check.due("kind no cell " + cell, sheet.kind(cell), -1);
        }
        check.due("kind of an empty one", sheet.kind(3), 0);
        check.due("kind of a number", sheet.kind(8), 1);
        check.due("kind of error 1", sheet.kind(0), 2);
        check.due("kind of error 2", sheet.kind(1), 3);
        Check.enter(sheet, "D1", "=H8");
        check.due("kind of a name of an empty one", sheet.kind(3), 1);
        Check.enter(sheet, "H8", "0");
        check.due("kind of the last cell", sheet.kind(63), 1);
    }

    private static void content() {
        RecalcSheet sheet = new RecalcSheet();
        Check.enter(sheet, "H8", "=IF(A1<>2,-3,(4))");
        String text = "=IF(A1<>2,-3,(4))";
        for (int i = 0; i < text.length(); i++) {
            check.due("content " + i, sheet.content(63, i), (int) text.charAt(i));
        }
        for (int i : new int[] {-1, text.length(), 39, 40, 41, Integer.MAX_VALUE, Integer.MIN_VALUE}) {
            check.due("no character " + i, sheet.content(63, i), -1);
        }
        for (int cell : NO_CELLS) {
            check.due("content no cell " + cell, sheet.content(cell, 0), -1);
        }
        check.due("content of an empty one", sheet.content(0, 0), -1);
        Check.enter(sheet, "H8", "-007");
        check.due("content as it was typed", Check.content(sheet, 63), "-007");
        check.due("nothing of a longer one before", sheet.content(63, 4), -1);
        Check.type(sheet, "=1+1");
        check.due("typing does not touch it", Check.content(sheet, 63), "-007");
    }

    private static void refers() {
        Object[][] all = {
            {"5", 0L}, {"=5", 0L}, {"=A1", 1L}, {"=H8", Long.MIN_VALUE}, {"=B1+B1", 2L}, {"=A2", 256L},
            {"=IF(1,A1,B1)", 3L}, {"=IF(C1,2,3)", 4L}, {"=SUM(A1:B2)", 771L}, {"=SUM(B2:A1)", 771L}, {"=SUM(A2:B1)", 771L},
            {"=SUM(B1:A2)", 771L}, {"=SUM(C1:C1)", 4L}, {"=SUM(A1:H1)", 255L}, {"=SUM(A1:A8)", 0x0101_0101_0101_0101L},
            {"=MIN(A1,B1:C1,SUM(D1))", 15L}, {"=SUM(H8:A8)", 0xFF00_0000_0000_0000L}, {"=0*A1", 1L},
        };
        for (Object[] one : all) {
            RecalcSheet sheet = new RecalcSheet();
            Check.enter(sheet, "G7", (String) one[0]);
            check.due("refers " + one[0], sheet.refers(Check.cell("G7")), one[1]);
        }
        RecalcSheet sheet = new RecalcSheet();
        for (int cell : NO_CELLS) {
            check.due("refers no cell " + cell, sheet.refers(cell), 0L);
        }
        Check.enter(sheet, "A1", "=B1");
        Check.enter(sheet, "A1", "=C1");
        check.due("refers by the content it has", sheet.refers(0), 4L);
        check.due("refers of a cell referred to", sheet.refers(2), 0L);
    }

    private static String places(RecalcSheet sheet, int count) {
        StringBuilder places = new StringBuilder();
        for (int cell = 0; cell < count; cell++) {
            places.append(cell == 0 ? "" : " ").append(sheet.place(cell));
        }
        return places.toString();
    }

    private static void place() {
        RecalcSheet sheet = new RecalcSheet();
        for (int cell : NO_CELLS) {
            check.due("place no cell " + cell, sheet.place(cell), -1);
        }
        Check.enter(sheet, "H8", "=A1");
        check.due("what stands before already does not move", sheet.place(63), 63);
        Check.enter(sheet, "A1", "=C1");
        // B is C1, F is A1: their places 0 and 2 go to C1 and then to A1.
        check.due("A1 behind C1", places(sheet, 4), "2 1 0 3");
        Check.enter(sheet, "C1", "=B1+D1");
        // B1 at 1: B1 to 0, C1 to 1. D1 at 3: F is C1 and A1, D1 to 1, C1 to 2, A1 to 3.
        check.due("C1 behind B1 and D1", places(sheet, 4), "3 0 2 1");
        check.due("H8 still behind all", sheet.place(63), 63);
        Check.clear(sheet, 2);
        check.due("nothing moves with clear", places(sheet, 4), "3 0 2 1");
        Check.enter(sheet, "D1", "=A1");
        // A1 at 3 no longer comes from D1, and nothing between them does: A1 to 1, D1 to 3.
        check.due("D1 behind A1, which refers to C1", places(sheet, 4), "2 0 1 3");
        Check.enter(sheet, "A1", "7");
        check.due("a number moves nothing", places(sheet, 4), "2 0 1 3");
    }

    private static void placeMovesOnlyWhatMust() {
        RecalcSheet sheet = new RecalcSheet();
        Check.enter(sheet, "C1", "=A1");
        Check.enter(sheet, "F1", "=E1");
        Check.enter(sheet, "A1", "=F1");
        // B: E1, F1 (places 4, 5), F: A1, C1 (0, 2). Places 0 2 4 5 go to E1 F1 A1 C1.
        check.due("B then F, each in its order", places(sheet, 8), "4 1 5 3 0 2 6 7");
        sheet = new RecalcSheet();
        Check.enter(sheet, "A1", "=SUM(F1:C1)");
        // By their numbers: C1 D1 E1 F1, one after another: each goes before A1.
        check.due("cells by their numbers", places(sheet, 8), "5 1 0 2 3 4 6 7");
        sheet = new RecalcSheet();
        Check.enter(sheet, "B1", "=D1");
        Check.enter(sheet, "A1", "=B1+C1+D1");
        // First B1 at 3: B is D1, B1 with places 1, 3; so A1 D1 B1 stand at 0 1 3 and become 3 0 1.
        check.due("sources of a source go along", places(sheet, 4), "3 1 2 0");
    }

    private static void changed() {
        RecalcSheet sheet = new RecalcSheet();
        Check.enter(sheet, "A1", "1");
        check.due("changed 0", sheet.changed(0), 0);
        check.due("changed 1", sheet.changed(1), -1);
        for (int i : new int[] {-1, 64, Integer.MAX_VALUE, Integer.MIN_VALUE}) {
            check.due("changed " + i, sheet.changed(i), -1);
        }
        Check.enter(sheet, "C1", "=A1");
        Check.enter(sheet, "B1", "=C1");
        Check.enter(sheet, "D1", "=A1>0");
        Check.enter(sheet, "E1", "=D1");
        Check.enter(sheet, "A1", "2");
        check.due("changed in the order of places", Check.changed(sheet), "0 2 1");
        Check.enter(sheet, "A1", "2");
        check.due("none changed", Check.changed(sheet), "");
        Check.enter(sheet, "A1", "-2");
        check.due("all changed", Check.changed(sheet), "0 2 1 3 4");
        Check.undo(sheet);
        check.due("changed by undo", Check.changed(sheet), "0 2 1 3 4");
        Check.clear(sheet, 7);
        check.due("changed stays", Check.changed(sheet), "0 2 1 3 4");
        Check.enter(sheet, "A1", "=A1");
        check.due("changed stays when refused", Check.changed(sheet), "0 2 1 3 4");
    }

    private static void worked() {
        RecalcSheet sheet = new RecalcSheet();
        check.due("worked before any", sheet.worked(), 0);
        Check.enter(sheet, "A1", "1");
        check.due("worked: the cell", sheet.worked(), 1);
        Check.enter(sheet, "B1", "=A1>0");
        Check.enter(sheet, "C1", "=B1");
        Check.enter(sheet, "D1", "=IF(1,2,A1)");
        Check.enter(sheet, "E1", "=D1+C1");
        check.due("worked: not what it refers to", sheet.worked(), 1);
        check.due("B1 and D1 stay", Check.enter(sheet, "A1", "2"), "1");
        check.due("worked: also those that stay, not what is behind them", sheet.worked(), 3);
        check.due("the value of A1 stays", Check.enter(sheet, "A1", "=1+1"), "0");
        check.due("worked: the cell alone", sheet.worked(), 1);
        check.due("all but D1", Check.enter(sheet, "A1", "=-1"), "4");
        check.due("worked: each once", sheet.worked(), 5);
        Check.undo(sheet);
        check.due("worked by undo", sheet.worked(), 5);
        Check.clear(sheet, 0);
        check.due("worked by clear", sheet.worked(), 5);
        Check.clear(sheet, 0);
        check.due("worked stays", sheet.worked(), 5);
        Check.clear(sheet, 4);
        check.due("worked: an empty one too", sheet.worked(), 1);
    }

    private static void log() {
        RecalcSheet sheet = new RecalcSheet();
        for (int i = 1; i <= 20; i++) {
            Check.enter(sheet, "A1", String.valueOf(i));
            check.due("log " + i, sheet.log(), i);
        }
        Check.enter(sheet, "A1", "21");
        Check.clear(sheet, 0);
        Check.enter(sheet, "A1", "23");
        check.due("the latest 20 alone", sheet.log(), 20);
        Check.enter(sheet, "B1", "=B1");
        Check.enter(sheet, "B1", "=");
        Check.clear(sheet, 5);
        check.due("what is no change is not in it", sheet.log(), 20);
        Check.undo(sheet);
        check.due("one less with undo", sheet.log(), 19);
        check.due("the one before", sheet.kind(0), 0);
        Check.undo(sheet);
        check.due("the one before that", Check.value(sheet, 0), "21");
        Check.enter(sheet, "C1", "1");
        check.due("one more with enter", sheet.log(), 19);
        Check.clear(sheet, 2);
        check.due("one more with clear", sheet.log(), 20);
        for (int i = 19; i >= 0; i--) {
            Check.undo(sheet);
            check.due("log down " + i, sheet.log(), i);
        }
        check.due("as far as the log goes", Check.value(sheet, 0), "3");
        check.due("no farther", Check.undo(sheet), NO_ELEMENT);
        check.due("all others are gone", sheet.kind(2), 0);
    }

    private static void objectsAreApart() {
        RecalcSheet one = new RecalcSheet();
        RecalcSheet other = new RecalcSheet();
        Check.type(one, "=B1");
        check.due("typed in one alone", other.wipe(), 0);
        Check.enter(one, 0);
        check.due("the other's place", other.place(0), 0);
        check.due("the other's kind", other.kind(0), 0);
        check.due("the other's log", other.log(), 0);
    }
}
