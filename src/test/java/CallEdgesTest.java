/** The boundary cases of promises 1 to 14, call by call: a method for each sentence. */
public final class CallEdgesTest {
    private static final String FORTY = "=" + "1+".repeat(19) + "1";

    private static final Check check = new Check();

    public static void main(String[] args) {
        newObject();
        typeTakesOneToEight();
        typeTakesTheLowestBytes();
        typeTakesPrintableCharacters();
        typeTakesUpToForty();
        wipe();
        enterNoSuchCell();
        enterWhatIsNoContent();
        enterTheOneItHas();
        enterLeavesNothingTyped();
        enterARound();
        enterWhatIsNoRoundThen();
        clearNoSuchCell();
        clearAnEmptyCell();
        clearAFullOne();
        undoAnEmptyLog();
        undoIsAChange();
        undoBringsTheOrderUpToDate();
        value();
        kind();
        content();
        refers();
        place();
        changed();
        worked();
        log();
        aLifeOf512Calls();
        check.end();
    }

    private static void newObject() {
        check.says("All cells are empty, nothing is typed, the log is empty, nothing was changed");
        Sheet sheet = new Sheet();
        for (int cell = 0; cell < 64; cell++) {
            check.due("new: cell " + cell, sheet.shows(Sheet.name(cell)), "empty");
            check.due("new: content " + cell, sheet.content(cell, 0), -1);
            check.due("new: refers " + cell, sheet.refers(cell), 0L);
            check.due("new: place " + cell, sheet.place(cell), cell);
        }
        check.due("new: log", sheet.log(), 0);
        check.due("new: changed", sheet.changed(0), -1);
        check.due("new: worked", sheet.worked(), 0);
        check.due("new: wipe", sheet.wipe(), 0);
        check.due("new: enter", new Sheet().enter(0), Sheet.ARGUMENT);
        check.due("new: undo", new Sheet().undo(), Sheet.ELEMENT);
        check.due("new: the first character", new Sheet().type('1', 1), 1);
        new Sheet().with("A1", "5").type("77");
        check.due("new: beside another one, typed", new Sheet().wipe(), 0);
        check.due("new: beside another one, A1", new Sheet().shows("A1"), "empty");
    }

    private static void typeTakesOneToEight() {
        check.says("BAD (and none of them is typed) when n is not 1 .. 8");
        Sheet sheet = new Sheet();
        int[] wrong = {0, 9, -1, 10, -8, 16, 40, 41, 64, 256, 257, Integer.MAX_VALUE, Integer.MIN_VALUE,
                Integer.MIN_VALUE + 1, Integer.MIN_VALUE + 8};
        for (int n : wrong) {
            check.due("n " + n, sheet.type(Sheet.packed("12345678"), n), -1);
        }
        check.due("none of them is typed", sheet.wipe(), 0);
        sheet.type("=1");
        for (int n : wrong) {
            check.due("n " + n + " behind others", sheet.type(Sheet.packed("12345678"), n), -1);
        }
        check.due("what was typed before", sheet.enter(0), "1");
        check.due("is all there is", sheet.content("A1"), "=1");
        for (int n = 1; n <= 8; n++) {
            String digits = "12345678".substring(8 - n);
            sheet = new Sheet();
            check.due("n " + n, sheet.type(Sheet.packed(digits), n), n);
            check.due("enter " + digits, sheet.enter(0), "1");
            check.due("content of " + digits, sheet.content("A1"), digits);
        }
    }

    private static void typeTakesTheLowestBytes() {
        check.says("the lowest n bytes of characters, the highest of them first: how many are typed");
        for (int n = 1; n <= 7; n++) {
            String digits = "12345678".substring(8 - n);
            for (long above : new long[] {0L, -1L, 0x0101_0101_0101_0101L, 0x4141_4141_4141_4141L,
                    0x8000_0000_0000_0000L}) {
                Sheet sheet = new Sheet();
                check.due("n " + n + " below others", sheet.type(above << 8 * n | Sheet.packed(digits), n), n);
                check.due("enter them", sheet.enter(0), "1");
                check.due("none of the others", sheet.content("A1"), digits);
            }
        }
        Sheet sheet = new Sheet();
        check.due("8", sheet.type(Sheet.packed("=1+2*3-4"), 8), 8);
        check.due("8 and 1", sheet.type(Sheet.packed("+"), 1), 9);
        check.due("9 and 3", sheet.type(Sheet.packed("5/6"), 3), 12);
        check.due("enter them", sheet.enter(0), "1");
        check.due("one behind another", sheet.content("A1"), "=1+2*3-4+5/6");
    }

    private static void typeTakesPrintableCharacters() {
        check.says("BAD (and none of them is typed) when .. one of them is not 32 .. 126");
        for (int n = 1; n <= 8; n++) {
            Sheet sheet = new Sheet();
            for (int at = 0; at < n; at++) {
                long ones = Sheet.packed("1".repeat(n)) & ~(255L << 8 * at);
                for (long wrong : new long[] {0, 1, 10, 31, 127, 128, 159, 160, 177, 254, 255}) {
                    check.due("character " + wrong + " at " + at + " of " + n, sheet.type(ones | wrong << 8 * at, n),
                            -1);
                }
            }
            check.due("none of them is typed", sheet.wipe(), 0);
        }
        for (int n = 1; n <= 8; n++) {
            for (int at = 0; at < n; at++) {
                long ones = Sheet.packed("1".repeat(n)) & ~(255L << 8 * at);
                Sheet sheet = new Sheet();
                check.due("character 32 at " + at + " of " + n, sheet.type(ones | 32L << 8 * at, n), n);
                check.due("character 126 at " + at + " of " + n, sheet.type(ones | 126L << 8 * at, n), 2 * n);
            }
        }
        for (int character = 0; character < 256; character++) {
            boolean right = character >= 32 && character <= 126;
            check.due("character " + character, new Sheet().type(character, 1), right ? 1 : -1);
        }
    }

    private static void typeTakesUpToForty() {
        check.says("BAD (and none of them is typed) when .. there would be more than 40");
        for (int n = 1; n <= 8; n++) {
            for (int before = 40 - n - 1; before <= 40; before++) {
                Sheet sheet = new Sheet();
                sheet.type(FORTY.substring(0, before));
                boolean fits = before + n <= 40;
                check.due(n + " behind " + before, sheet.type(Sheet.packed("1".repeat(n)), n), fits ? before + n : -1);
                check.due("typed then", sheet.wipe(), fits ? before + n : before);
            }
        }
        Sheet sheet = new Sheet();
        sheet.type(FORTY.substring(0, 37));
        check.due("four behind 37", sheet.type(Sheet.packed("+1+1"), 4), -1);
        check.due("three behind 37", sheet.type(Sheet.packed("1+1"), 3), 40);
        check.due("one behind 40", sheet.type('1', 1), -1);
        check.due("enter forty", sheet.enter(0), "1");
        check.due("forty", sheet.content("A1"), FORTY.substring(0, 37) + "1+1");
        check.due("behind enter there is room again", sheet.type('1', 1), 1);
        check.due("a wrong one in forty", sheet.type(31, 1), -1);
        check.due("still one", sheet.wipe(), 1);
    }

    private static void wipe() {
        check.says("Nothing is typed any more: how many characters there were");
        for (int length = 0; length <= 40; length++) {
            Sheet sheet = new Sheet();
            sheet.type(FORTY.substring(0, length));
            check.due("wipe " + length, sheet.wipe(), length);
            check.due("wipe again", sheet.wipe(), 0);
            check.due("enter nothing", sheet.enter(0), Sheet.ARGUMENT);
            check.due("room for forty again", sheet.type(FORTY), 40);
            check.due("enter forty", sheet.enter(0), "1");
        }
        Sheet sheet = new Sheet().with("A1", "5").with("B1", "=A1");
        sheet.enter("A1", "6");
        sheet.type("=A1");
        sheet.wipe();
        check.due("wipe leaves the changed ones", sheet.changed(), "A1 B1");
        check.due("wipe leaves worked", sheet.worked(), 2);
        check.due("wipe leaves the log", sheet.log(), 3);
        check.due("wipe leaves the cells", sheet.content("B1") + " is " + sheet.shows("B1"), "=A1 is 6");
    }

    private static void enterNoSuchCell() {
        check.says("IllegalArgumentException when there is no such cell");
        Sheet sheet = new Sheet();
        for (int cell : Sheet.NO_CELLS) {
            check.due("enter nothing into " + cell, sheet.enter(cell), Sheet.ARGUMENT);
        }
        sheet.type("5");
        for (int cell : Sheet.NO_CELLS) {
            check.due("enter into " + cell, sheet.enter(cell), Sheet.ARGUMENT);
        }
        check.due("the log", sheet.log(), 0);
        check.due("into the first", sheet.enter(0), "1");
        sheet.type("6");
        check.due("into the last", sheet.enter(63), "1");
        check.due("the first", sheet.shows("A1"), "5");
        check.due("the last", sheet.shows("H8"), "6");
    }

    private static void enterWhatIsNoContent() {
        check.says("IllegalArgumentException when .. what is typed is no content");
        for (String text : new String[] {"", " ", "-", "=", "A", "=A", "1234567890", "=1+", "=SUM()", "=(1",
                FORTY.substring(0, 39), "1".repeat(40), " ".repeat(40)}) {
            Sheet sheet = new Sheet().with("A1", "5");
            check.due("enter '" + text + "' into a full one", sheet.enter("A1", text), Sheet.ARGUMENT);
            check.due("enter it into an empty one", sheet.enter(1), Sheet.ARGUMENT);
            check.due("the full one", sheet.content("A1") + " is " + sheet.shows("A1"), "5 is 5");
            check.due("the empty one", sheet.shows("B1"), "empty");
            check.due("still typed", sheet.wipe(), text.length());
        }
    }

    private static void enterTheOneItHas() {
        check.says("also the one it has; that is a change, too");
        for (String text : new String[] {"5", "=C1", "=1/0", "=MIN(H8:H8)", FORTY}) {
            Sheet sheet = new Sheet().with("A1", text).with("B1", "=A1");
            check.due("enter " + text + " again", sheet.enter("A1", text), "0");
            check.due("worked", sheet.worked(), 1);
            check.due("changed", sheet.changed(0), -1);
            check.due("log", sheet.log(), 3);
            check.due("typed", sheet.wipe(), 0);
            check.due("undo", sheet.undo(), "0");
            check.due("its content", sheet.content("A1"), text);
        }
    }

    private static void enterLeavesNothingTyped() {
        check.says("and nothing is typed then");
        Sheet sheet = new Sheet();
        check.due("enter", sheet.enter("A1", FORTY), "1");
        check.due("nothing is left", sheet.wipe(), 0);
        check.due("enter nothing", sheet.enter(1), Sheet.ARGUMENT);
        check.due("a character", sheet.type('7', 1), 1);
        check.due("enter it", sheet.enter(1), "1");
        check.due("it alone", sheet.content("B1"), "7");
        check.due("forty as before", sheet.content("A1"), FORTY);
    }

    private static void enterARound() {
        check.says("IllegalStateException, behind that, when a cell would refer to itself then, or to one that refers to it, and so on");
        for (String text : new String[] {"=A1", "=-A1", "=(A1)", "=A1+1", "=1+A1", "=0*A1", "=1/0+A1", "=A1<1",
                "=IF(1,2,A1)", "=IF(0,A1,2)", "=IF(A1,1,2)", "=IF(1/0,A1,2)", "=SUM(A1)", "=SUM(1/0,A1)", "=SUM(A1:A1)",
                "=SUM(A1:H8)", "=COUNT(B2:A1)", "=MAX(A2:B1)", "=IF(1,2,SUM(A1:B2))"}) {
            check.due("A1 to itself by " + text, new Sheet().enter("A1", text), Sheet.STATE);
        }
        check.due("the last cell to itself", new Sheet().enter("H8", "=H8"), Sheet.STATE);
        for (int cells = 2; cells <= 64; cells++) {
            Sheet sheet = new Sheet();
            for (int cell = 0; cell < cells - 1; cell++) {
                sheet.with(Sheet.name(cell), "=" + Sheet.name(cell + 1));
            }
            check.due("a round of " + cells, sheet.enter(Sheet.name(cells - 1), "=A1"), Sheet.STATE);
            check.due("it is typed still", sheet.wipe(), 3);
            check.due("a round of " + cells + " through a range", sheet.enter(Sheet.name(cells - 1), "=SUM(A2:A1)"),
                    Sheet.STATE);
            check.due("no cell is changed", sheet.shows(Sheet.name(cells - 1)), "empty");
        }
        Sheet sheet = new Sheet().with("A1", "=IF(1,2,B1)");
        check.due("a round through a part that is not taken", sheet.enter("B1", "=A1"), Sheet.STATE);
        sheet = new Sheet().with("A1", "=SUM(C1:E5)");
        check.due("a round through a range", sheet.enter("D4", "=A1"), Sheet.STATE);
        check.due("none beside the range", sheet.enter(Sheet.cell("F5")), "1");
        check.says("behind that");
        check.due("no content and a round", new Sheet().enter("A1", "=A1+"), Sheet.ARGUMENT);
        check.due("a tenth digit and a round", new Sheet().enter("A1", "=A1+1234567890"), Sheet.ARGUMENT);
        check.due("nine deep and a round", new Sheet().enter("A1", "=A1+(((((((((1)))))))))"), Sheet.ARGUMENT);
        check.due("a range outside and a round", new Sheet().enter("A1", "=SUM(A1:I1)"), Sheet.ARGUMENT);
    }

    private static void enterWhatIsNoRoundThen() {
        check.says("would refer to itself then");
        Sheet sheet = new Sheet().with("A1", "=B1");
        check.due("a round", sheet.enter("B1", "=A1"), Sheet.STATE);
        sheet.wipe();
        check.due("another content", sheet.enter("A1", "=C1"), "0");
        check.due("no round any more", sheet.enter("B1", "=A1"), "1");
        check.due("a round the other way", sheet.enter("A1", "=B1"), Sheet.STATE);
        sheet.wipe();
        sheet.clear("B1");
        check.due("no round behind clear", sheet.enter("A1", "=B1"), "0");
        sheet.undo();
        sheet.undo();
        check.due("a round behind undo", sheet.enter("A1", "=B1"), Sheet.STATE);
        sheet = new Sheet().with("A1", "=B1").with("C1", "=B1");
        check.due("two ways to one cell are no round", sheet.enter("D1", "=A1+C1+B1"), "1");
        check.due("nor is a cell twice", sheet.enter("E1", "=D1+D1*D1"), "1");
    }

    private static void clearNoSuchCell() {
        check.says("IllegalArgumentException when there is no such cell");
        Sheet sheet = new Sheet().with("A1", "5").with("H8", "6");
        for (int cell : Sheet.NO_CELLS) {
            check.due("clear " + cell, sheet.clear(cell), Sheet.ARGUMENT);
        }
        check.due("the log", sheet.log(), 2);
        check.due("clear the first", sheet.clear(0), "1");
        check.due("clear the last", sheet.clear(63), "1");
        check.due("the first", sheet.shows("A1"), "empty");
        check.due("the last", sheet.shows("H8"), "empty");
    }

    private static void clearAnEmptyCell() {
        check.says("0, and no change is made, when it was empty: changed(), worked() and the log stay");
        Sheet sheet = new Sheet();
        check.due("clear at first", sheet.clear(0), "0");
        check.due("worked at first", sheet.worked(), 0);
        check.due("changed at first", sheet.changed(0), -1);
        check.due("log at first", sheet.log(), 0);
        check.due("undo at first", sheet.undo(), Sheet.ELEMENT);
        sheet.with("B1", "=A1").with("C1", "=B1").with("B1", "4");
        check.due("clear one that others refer to", sheet.clear("A1"), "0");
        check.due("changed stays", sheet.changed(), "B1 C1");
        check.due("worked stays", sheet.worked(), 2);
        check.due("log stays", sheet.log(), 3);
        sheet.clear("C1");
        check.due("clear one twice", sheet.clear("C1"), "0");
        check.due("changed stays behind clear", sheet.changed(), "C1");
        check.due("log stays behind clear", sheet.log(), 4);
        sheet.undo();
        check.due("the one clear is taken back", sheet.shows("C1"), "4");
        sheet.undo();
        check.due("the one before", sheet.content("B1"), "=A1");
    }

    private static void clearAFullOne() {
        check.says("A cell becomes empty: how many cells are changed");
        for (String text : new String[] {"0", "5", "=C1", "=1/0", "=MIN(H8:H8)", FORTY}) {
            Sheet sheet = new Sheet().with("A1", text);
            sheet.type("12");
            check.due("clear " + text, sheet.clear("A1"), "1");
            check.due("empty", sheet.shows("A1"), "empty");
            check.due("no character", sheet.content(0, 0), -1);
            check.due("refers to none", sheet.refers(0), 0L);
            check.due("worked", sheet.worked(), 1);
            check.due("changed", sheet.changed(), "A1");
            check.due("log", sheet.log(), 2);
            check.due("what is typed stays", sheet.wipe(), 2);
        }
        Sheet sheet = new Sheet().with("A1", "0").with("B1", "=A1").with("C1", "=COUNT(A1:A1)");
        check.due("a 0 that others refer to", sheet.clear("A1"), "2");
        check.due("the name's value stays", sheet.changed(), "A1 C1");
        check.due("it is worked out, too", sheet.worked(), 3);
    }

    private static void undoAnEmptyLog() {
        check.says("NoSuchElementException when the log is empty");
        Sheet sheet = new Sheet();
        check.due("at first", sheet.undo(), Sheet.ELEMENT);
        sheet.clear("A1");
        sheet.enter("A1", "=A1");
        check.due("behind what is no change", sheet.undo(), Sheet.ELEMENT);
        sheet.wipe();
        sheet.with("A1", "5");
        check.due("behind one", sheet.undo(), "1");
        check.due("behind it taken back", sheet.undo(), Sheet.ELEMENT);
        check.due("changed stays", sheet.changed(), "A1");
        check.due("worked stays", sheet.worked(), 1);
        check.due("the log", sheet.log(), 0);
        sheet.with("A1", "6");
        check.due("one more", sheet.undo(), "1");
        check.due("no more", sheet.undo(), Sheet.ELEMENT);
    }

    private static void undoIsAChange() {
        check.says("its cell gets what it had before, as a change .. that is not put into the log. How many cells are changed");
        Sheet sheet = new Sheet().with("A1", "1").with("B1", "=A1").with("C1", "=B1>5").with("A1", "2");
        sheet.type("99");
        check.due("undo", sheet.undo(), "2");
        check.due("changed", sheet.changed(), "A1 B1");
        check.due("worked", sheet.worked(), 3);
        check.due("log", sheet.log(), 3);
        check.due("what is typed stays", sheet.wipe(), 2);
        check.due("undo to empty", sheet.undo(), "1");
        check.due("C1 is empty", sheet.shows("C1"), "empty");
        check.due("C1 refers to none", sheet.refers(2), 0L);
        check.due("worked: an empty one", sheet.worked(), 1);
        check.due("the next one", sheet.undo(), "1");
        check.due("the first one", sheet.undo(), "1");
        check.due("none is left", sheet.log(), 0);
        sheet = new Sheet().with("A1", "5").with("A1", "=2+3");
        check.due("undo the same value", sheet.undo(), "0");
        check.due("worked by the same value", sheet.worked(), 1);
        check.due("changed by the same value", sheet.changed(0), -1);
        check.due("the content of before", sheet.content("A1"), "5");
        sheet.with("A1", "7");
        sheet.clear("A1");
        sheet.undo();
        sheet.undo();
        check.due("not undone by undo", sheet.shows("A1"), "5");
    }

    private static void undoBringsTheOrderUpToDate() {
        check.says("the order is brought up to date for it, too");
        Sheet sheet = new Sheet().with("A1", "=B1");
        check.due("A1 behind B1", sheet.places("A1 B1"), "1 0");
        sheet.clear("A1");
        sheet.with("B1", "=A1");
        check.due("B1 behind A1", sheet.places("A1 B1"), "0 1");
        sheet.undo();
        check.due("it does not move back by itself", sheet.places("A1 B1"), "0 1");
        sheet.undo();
        check.due("A1 behind B1 again", sheet.places("A1 B1"), "1 0");
        sheet.enter("B1", "6");
        check.due("B1 first", sheet.changed(), "B1 A1");
        sheet = new Sheet().with("A1", "=D1").with("A1", "1").with("D1", "=A1");
        check.due("D1 behind A1", sheet.places("A1 B1 C1 D1"), "0 1 2 3");
        sheet.undo();
        sheet.undo();
        check.due("A1 behind D1", sheet.places("A1 B1 C1 D1"), "3 1 2 0");
        check.due("A1 refers to D1", sheet.refers(0), 8L);
    }

    private static void value() {
        check.says("The number that a cell has, 0 when it is empty (kind() tells that)");
        Sheet sheet = new Sheet().with("A1", "0").with("B1", "=65536*65536*65536*32768").with("C1", "=B1-1")
                .with("H8", "-1");
        check.due("of 0", sheet.value(0), "0");
        check.due("the least", sheet.value(1), "-9223372036854775808");
        check.due("the greatest", sheet.value(2), "9223372036854775807");
        check.due("of an empty one", sheet.value(3), "0");
        check.due("of the last", sheet.value(63), "-1");
        sheet.clear("C1");
        check.due("of one that is empty again", sheet.value(2), "0");
        check.says("IllegalArgumentException when there is no such cell");
        for (int cell : Sheet.NO_CELLS) {
            check.due("value " + cell, sheet.value(cell), Sheet.ARGUMENT);
        }
        check.says("ArithmeticException when it has an error");
        sheet.with("H8", "=1/0");
        check.due("of error 1", sheet.value(63), Sheet.ARITHMETIC);
        sheet.with("H8", "=MIN(G8:G8)");
        check.due("of error 2", sheet.value(63), Sheet.ARITHMETIC);
        sheet.with("H8", "3");
        check.due("of a number again", sheet.value(63), "3");
        sheet.with("H8", "=1%0");
        sheet.clear("H8");
        check.due("of an empty one again", sheet.value(63), "0");
    }

    private static void kind() {
        check.says("0 when a cell is empty, 1 when it has a number, 2 for error 1, 3 for error 2");
        Sheet sheet = new Sheet().with("A1", "0").with("B1", "=1/0").with("C1", "=MAX(G8:G8)").with("H8", "=D1");
        check.due("a number", sheet.kind(0), 1);
        check.due("error 1", sheet.kind(1), 2);
        check.due("error 2", sheet.kind(2), 3);
        check.due("empty", sheet.kind(3), 0);
        check.due("the name of an empty one", sheet.kind(63), 1);
        sheet.clear("B1");
        check.due("empty again", sheet.kind(1), 0);
        check.says("BAD when there is no such cell");
        for (int cell : Sheet.NO_CELLS) {
            check.due("kind " + cell, sheet.kind(cell), -1);
        }
    }

    private static void content() {
        check.says("Character i of a cell's content; BAD when there is none");
        for (int length = 1; length <= 9; length++) {
            String text = "987654321".substring(0, length);
            Sheet sheet = new Sheet().with("H8", "123456789").with("H8", text);
            for (int i = 0; i < length; i++) {
                check.due("content of " + text + " at " + i, sheet.content(63, i), (int) text.charAt(i));
            }
            for (int i : new int[] {-1, length, length + 1, 39, 40, 41, 64, 256, Integer.MAX_VALUE,
                    Integer.MIN_VALUE}) {
                check.due("content of " + text + " at " + i, sheet.content(63, i), -1);
            }
        }
        Sheet sheet = new Sheet().with("A1", FORTY);
        for (int i = 0; i < 40; i++) {
            check.due("content of forty at " + i, sheet.content(0, i), (int) FORTY.charAt(i));
        }
        check.due("content of forty at 40", sheet.content(0, 40), -1);
        check.due("content of forty at -1", sheet.content(0, -1), -1);
        for (int cell : Sheet.NO_CELLS) {
            check.due("content of " + cell, sheet.content(cell, 0), -1);
        }
        check.due("content of an empty one", sheet.content(1, 0), -1);
        sheet.type("123");
        check.due("what is typed is no content yet", sheet.content(1, 0), -1);
        sheet.clear("A1");
        check.due("content of one that is empty again", sheet.content(0, 0), -1);
    }

    private static void refers() {
        check.says("as the sum of 2^n for cells n (2^63 being the least long); 0 when there is no such cell");
        for (int cell = 0; cell < 64; cell++) {
            String other = cell == 63 ? "A1" : "H8";
            check.due("refers to " + Sheet.name(cell), new Sheet()
                    .with(other, "=" + Sheet.name(cell)).refers(Sheet.cell(other)), 1L << cell);
        }
        Sheet sheet = new Sheet().with("A1", "=H8");
        check.due("2^63", sheet.refers(0), Long.MIN_VALUE);
        check.due("what is referred to", sheet.refers(63), 0L);
        check.due("an empty one", sheet.refers(1), 0L);
        sheet.with("A1", "=G8+H8");
        check.due("2^62 + 2^63", sheet.refers(0), 3L << 62);
        sheet.with("A1", "5");
        check.due("a number", sheet.refers(0), 0L);
        sheet.undo();
        check.due("by undo", sheet.refers(0), 3L << 62);
        sheet.clear("A1");
        check.due("by clear", sheet.refers(0), 0L);
        sheet.with("H8", "=SUM(A1:H7,A8:G8)");
        for (int cell : Sheet.NO_CELLS) {
            check.due("refers " + cell, sheet.refers(cell), 0L);
        }
    }

    private static void place() {
        check.says("The place of a cell; BAD when there is none");
        Sheet sheet = new Sheet();
        for (int cell : Sheet.NO_CELLS) {
            check.due("place " + cell, sheet.place(cell), -1);
        }
        check.due("the first", sheet.place(0), 0);
        check.due("the last", sheet.place(63), 63);
        sheet.with("A1", "=H8");
        check.due("the first behind", sheet.place(0), 63);
        check.due("the last before", sheet.place(63), 0);
    }

    private static void changed() {
        check.says("Changed cell i (from 0, in the order of their places) of the latest change, by undo() too; BAD when there is none");
        Sheet sheet = new Sheet();
        for (int i : new int[] {-1, 0, 1, 63, 64, Integer.MAX_VALUE, Integer.MIN_VALUE}) {
            check.due("changed " + i + " before any", sheet.changed(i), -1);
        }
        sheet.with("B1", "=A1").with("C1", "=B1").with("A1", "5");
        check.due("changed 0", sheet.changed(0), 0);
        check.due("changed 1", sheet.changed(1), 1);
        check.due("changed 2", sheet.changed(2), 2);
        for (int i : new int[] {3, 4, -1, -2, 63, 64, 65, 256, Integer.MAX_VALUE, Integer.MIN_VALUE}) {
            check.due("changed " + i, sheet.changed(i), -1);
        }
        sheet.with("H8", "1");
        check.due("the latest change alone", sheet.changed(0), 63);
        check.due("none of the one before", sheet.changed(1), -1);
        sheet.undo();
        sheet.undo();
        check.due("by undo", sheet.changed(), "A1 B1 C1");
        sheet.enter("A1", "=C1");
        sheet.wipe();
        sheet.clear("D1");
        check.due("a refused call and no change leave them", sheet.changed(), "A1 B1 C1");
    }

    private static void worked() {
        check.says("How many cells were worked out by the latest change (the cell itself, empty or not, too; also those whose value stayed); 0 before any");
        Sheet sheet = new Sheet();
        check.due("before any", sheet.worked(), 0);
        sheet.clear("A1");
        check.due("clear of an empty one is none", sheet.worked(), 0);
        sheet.enter("A1", "=A1");
        sheet.wipe();
        sheet.undo();
        check.due("what is refused is none", sheet.worked(), 0);
        sheet.with("A1", "5");
        check.due("the cell itself", sheet.worked(), 1);
        sheet.with("B1", "=A1*0").with("C1", "=B1").with("A1", "6");
        check.due("one whose value stayed", sheet.worked(), 2);
        sheet.clear("A1");
        check.due("the cell itself, empty", sheet.worked(), 2);
        sheet.undo();
        check.due("by undo", sheet.worked(), 2);
        sheet.with("A1", "6");
        check.due("the cell itself, whose value stayed", sheet.worked(), 1);
        sheet.clear("C1");
        check.due("the cell alone, empty", sheet.worked(), 1);
    }

    private static void log() {
        check.says("How many changes the log has");
        Sheet sheet = new Sheet();
        for (int i = 1; i <= 19; i++) {
            sheet.with(Sheet.name(i), "1");
        }
        check.due("19", sheet.log(), 19);
        sheet.clear("B1");
        check.due("20", sheet.log(), 20);
        sheet.with("B1", "1");
        check.due("21 are 20", sheet.log(), 20);
        sheet.undo();
        check.due("one less", sheet.log(), 19);
        for (int i = 18; i >= 0; i--) {
            sheet.undo();
            check.due("down to " + i, sheet.log(), i);
        }
        sheet.undo();
        check.due("not below 0", sheet.log(), 0);
    }

    private static void aLifeOf512Calls() {
        check.says("An object is used for at most 512 calls after it has been made");
        Sheet sheet = new Sheet();
        for (int i = 0; sheet.calls() < 510; i++) {
            check.due("type, turn " + i, sheet.type(Sheet.packed("=A1+1"), 5), 5);
            check.due("enter, turn " + i, sheet.enter(1 + i % 63), i < 63 ? "1" : "0");
        }
        check.due("log by call 511", sheet.log(), 20);
        check.due("undo by call 512", sheet.undo(), "0");
        check.due("calls", sheet.calls(), 512);
    }
}
