/** The boundary cases of "THE ORDER", "A CHANGE" and "THE LOG": a method for each sentence. */
public final class OrderEdgesTest {
    private static final String FIRST_ROW = "A1 B1 C1 D1 E1 F1 G1 H1";

    private static final Check check = new Check();

    public static void main(String[] args) {
        atFirst();
        onlyWhenThePlaceIsGreater();
        fromTheFirstPlaceToTheLast();
        whatXComesFrom();
        whatComesFromY();
        andSoOn();
        inTheOrderOfTheirPlacesBefore();
        byTheirNumbers();
        byTheContentsThatStand();
        everyReferenceCounts();
        everyCellStandsBehind();
        theLongestChains();
        nothingMovesWhenACellBecomesEmpty();
        onlyWhatRefersToAChangedOne();
        eachOnceInTheOrderOfPlaces();
        allCellsAtOnce();
        anotherValue();
        theChangedCells();
        theLogGrows();
        theLatestTwenty();
        notTakenBack();
        whatItHadBefore();
        check.end();
    }

    private static void atFirst() {
        check.says("Every cell has a PLACE 0 .. 63, at first cell n place n");
        Sheet sheet = new Sheet();
        for (int cell = 0; cell < 64; cell++) {
            check.due("place " + cell, sheet.place(cell), cell);
        }
    }

    private static void onlyWhenThePlaceIsGreater() {
        check.says("if the place of x is greater than that of y");
        check.due("moved by B1 to A1", new Sheet().with("B1", "=A1").moved(), 0);
        check.due("moved by H8 to A1", new Sheet().with("H8", "=A1").moved(), 0);
        check.due("moved by H8 to G8", new Sheet().with("H8", "=G8").moved(), 0);
        check.due("moved by H8 to all others", new Sheet().with("H8", "=SUM(A1:H7,A8:G8)").moved(), 0);
        check.due("moved by a number", new Sheet().with("A1", "5").moved(), 0);
        check.due("moved by no reference", new Sheet().with("A1", "=1+1").moved(), 0);
        Sheet sheet = new Sheet().with("A1", "=B1");
        check.due("one place farther", sheet.places(FIRST_ROW), "1 0 2 3 4 5 6 7");
        check.due("nothing else moves", sheet.moved(), 2);
        sheet.with("A1", "=B1");
        check.due("the same again", sheet.moved(), 2);
        sheet.with("A1", "=B1+1");
        check.due("the same reference", sheet.places("A1 B1"), "1 0");
        sheet = new Sheet().with("A1", "=C1").with("B1", "=C1");
        // C1 went to place 0 by the first one, so it is before B1 already.
        check.due("by the places of now, not of the numbers", sheet.places("A1 B1 C1"), "2 1 0");
    }

    private static void fromTheFirstPlaceToTheLast() {
        check.says("the places of all these cells, the least first, go to the cells of B .. and then to those of F");
        Sheet sheet = new Sheet().with("A1", "=H8");
        check.due("the first and the last", sheet.places("A1 H8"), "63 0");
        check.due("nothing between them moves", sheet.moved(), 2);
        sheet = new Sheet().with("A1", "=SUM(B1:H1,A2:H8)");
        for (int cell = 1; cell < 64; cell++) {
            check.due("one farther to the front: " + cell, sheet.place(cell), cell - 1);
        }
        check.due("the first behind all", sheet.place(0), 63);
        sheet = new Sheet().with("G8", "=H8");
        check.due("the last two", sheet.places("F8 G8 H8"), "61 63 62");
    }

    private static void whatXComesFrom() {
        check.says("B be x and all cells that x comes from (refers to, and so on) whose places are greater than that of y");
        Sheet sheet = new Sheet().with("F1", "=A1+D1").with("C1", "=F1");
        check.due("D1 goes along, A1 stays, E1 stays", sheet.places(FIRST_ROW), "0 1 5 2 4 3 6 7");
        sheet = new Sheet().with("F1", "=B1+D1").with("C1", "=F1");
        check.due("B1, right before C1, stays", sheet.places(FIRST_ROW), "0 1 5 2 4 3 6 7");
        sheet = new Sheet().with("F1", "=E1").with("D1", "=F1");
        check.due("E1, right behind D1, goes along", sheet.places(FIRST_ROW), "0 1 2 5 3 4 6 7");
        sheet = new Sheet().with("H1", "=F1").with("A1", "=F1");
        check.due("what comes from x stays", sheet.places(FIRST_ROW), "5 1 2 3 4 0 6 7");
    }

    private static void whatComesFromY() {
        check.says("F be y and all cells that come from y (refer to it, and so on) whose places are less than that of x");
        Sheet sheet = new Sheet().with("D1", "=B1").with("H1", "=B1").with("B1", "=F1");
        check.due("D1 goes along, H1 stays, C1 and E1 stay", sheet.places(FIRST_ROW), "0 3 2 5 4 1 6 7");
        sheet = new Sheet().with("G1", "=B1").with("B1", "=F1");
        check.due("G1, right behind F1, stays", sheet.places(FIRST_ROW), "0 5 2 3 4 1 6 7");
        sheet = new Sheet().with("E1", "=B1").with("B1", "=F1");
        check.due("E1, right before F1, goes along", sheet.places(FIRST_ROW), "0 4 2 3 5 1 6 7");
        sheet = new Sheet().with("B1", "=A1").with("C1", "=A1").with("B1", "=A1+F1");
        check.due("what y comes from, and what else comes from that, stay", sheet.places(FIRST_ROW), "0 5 2 3 4 1 6 7");
    }

    private static void andSoOn() {
        check.says("refers to, and so on; refer to it, and so on");
        Sheet sheet = new Sheet().with("F1", "=E1").with("G1", "=F1").with("B1", "=A1").with("C1", "=B1")
                .with("A1", "=G1");
        check.due("three and three, D1 between them", sheet.places(FIRST_ROW), "4 5 6 3 0 1 2 7");
        // The way from H1 to D1 leads over E1 alone, and from A1 to C1 over B1.
        sheet = new Sheet().with("E1", "=D1").with("H1", "=E1").with("B1", "=A1").with("C1", "=B1").with("A1", "=H1");
        check.due("two steps on both sides", sheet.places(FIRST_ROW), "3 4 7 0 1 5 6 2");
    }

    private static void inTheOrderOfTheirPlacesBefore() {
        check.says("to the cells of B, in the order of their places before, and then to those of F, likewise");
        Sheet sheet = new Sheet().with("D1", "=E1").with("F1", "=D1+E1");
        check.due("D1 behind E1", sheet.places(FIRST_ROW), "0 1 2 4 3 5 6 7");
        sheet.with("A1", "=F1");
        check.due("B by its places", sheet.places(FIRST_ROW), "5 1 2 3 0 4 6 7");
        sheet = new Sheet().with("C1", "=A1").with("B1", "=C1");
        check.due("B1 behind C1", sheet.places(FIRST_ROW), "0 2 1 3 4 5 6 7");
        sheet.with("A1", "=F1");
        check.due("F by its places", sheet.places(FIRST_ROW), "1 5 2 3 4 0 6 7");
    }

    private static void byTheirNumbers() {
        check.says("for each cell x that it refers to, by their numbers");
        check.due("not as they stand in the text", new Sheet().with("A1", "=C1+B1").places("A1 B1 C1"), "2 0 1");
        check.due("as they stand in the text", new Sheet().with("A1", "=B1+C1").places("A1 B1 C1"), "2 0 1");
        check.due("as a range", new Sheet().with("A1", "=SUM(C1:B1)").places("A1 B1 C1"), "2 0 1");
        Sheet sheet = new Sheet().with("B1", "=C1");
        sheet.clear("B1");
        check.due("B1 behind C1 still", sheet.places("A1 B1 C1"), "0 2 1");
        sheet.with("A1", "=B1+C1");
        check.due("not by their places", sheet.places("A1 B1 C1"), "2 0 1");
        sheet = new Sheet().with("A1", "=SUM(B1,A2,H8,A8)");
        check.due("B1 A2 A8 H8, one after another", sheet.places("A1 B1 A2 A8 H8"), "63 0 1 8 56");
    }

    private static void byTheContentsThatStand() {
        check.says("When a cell y gets a content");
        Sheet sheet = new Sheet().with("A1", "=B1").with("A1", "=C1");
        check.due("another reference", sheet.places("A1 B1 C1"), "2 0 1");
        sheet = new Sheet().with("D1", "=A1").with("D1", "7").with("A1", "=H1");
        check.due("D1 comes from A1 no more", sheet.places(FIRST_ROW), "7 1 2 3 4 5 6 0");
        sheet = new Sheet().with("F1", "=D1");
        sheet.clear("F1");
        sheet.with("A1", "=F1");
        check.due("F1 refers to D1 no more", sheet.places(FIRST_ROW), "5 1 2 3 4 0 6 7");
        sheet = new Sheet().with("F1", "=D1");
        sheet.undo();
        sheet.with("A1", "=F1");
        check.due("F1 refers to D1 no more, by undo", sheet.places(FIRST_ROW), "5 1 2 3 4 0 6 7");
        // A1 gave up E1 in the same change: what E1 comes from does not count.
        sheet = new Sheet().with("E1", "=D1").with("A1", "=E1");
        check.due("behind D1 and E1", sheet.places(FIRST_ROW), "4 1 2 0 3 5 6 7");
        sheet.with("A1", "=G1");
        check.due("behind G1 alone", sheet.places(FIRST_ROW), "6 1 2 0 3 5 4 7");
    }

    private static void everyReferenceCounts() {
        check.says("for each cell x that it refers to");
        check.due("in a part that is not taken", new Sheet().with("A1", "=IF(1,2,C1)").places("A1 B1 C1"), "2 1 0");
        check.due("behind an error", new Sheet().with("A1", "=1/0+C1").places("A1 B1 C1"), "2 1 0");
        check.due("in a range", new Sheet().with("A1", "=COUNT(C1:C1)").places("A1 B1 C1"), "2 1 0");
        check.due("times 0", new Sheet().with("A1", "=0*C1").places("A1 B1 C1"), "2 1 0");
        Sheet sheet = new Sheet().with("C1", "=1/0").with("A1", "=C1");
        check.due("to an error", sheet.places("A1 B1 C1"), "2 1 0");
    }

    private static void everyCellStandsBehind() {
        check.says("After that every cell stands behind all that it refers to");
        String[][] all = {
            {"A1", "=H8+B2"}, {"B2", "=SUM(C3:D4)"}, {"C3", "=H7"}, {"H8", "=G8+F8"}, {"D4", "=C4+C3"},
            {"A2", "=A1*A1"}, {"H7", "=E5"}, {"E5", "=SUM(F6:G7)"}, {"G8", "=A8"}, {"F6", "=H1"}, {"B1", "=A2+H8"},
            {"A8", "=H2"}, {"H1", "=B8"}, {"B8", "=A8"}, {"C4", "=SUM(E5:F8)"},
        };
        Sheet sheet = new Sheet();
        for (String[] one : all) {
            check.due(one[0] + " takes " + one[1], sheet.enter(one[0], one[1]).startsWith("throws"), false);
        }
        int[] places = new int[64];
        boolean[] taken = new boolean[64];
        for (int cell = 0; cell < 64; cell++) {
            places[cell] = sheet.place(cell);
            check.due("a place of its own for " + cell, places[cell] >= 0 && places[cell] < 64 && !taken[places[cell]],
                    true);
            taken[places[cell]] = true;
        }
        for (int cell = 0; cell < 64; cell++) {
            long cells = sheet.refers(cell);
            for (int other = 0; other < 64; other++) {
                if ((cells >>> other & 1) != 0) {
                    check.due(Sheet.name(cell) + " stands behind " + Sheet.name(other), places[cell] > places[other],
                            true);
                }
            }
        }
    }

    private static void theLongestChains() {
        check.says("refers to, and so on");
        Sheet front = new Sheet();
        for (int cell = 0; cell < 63; cell++) {
            front.with(Sheet.name(cell), "=" + Sheet.name(cell + 1));
        }
        Sheet back = new Sheet();
        for (int cell = 62; cell >= 0; cell--) {
            back.with(Sheet.name(cell), "=" + Sheet.name(cell + 1));
        }
        for (int cell = 0; cell < 64; cell++) {
            check.due("each to the next one, from the first on: " + cell, front.place(cell), 63 - cell);
            check.due("each to the next one, from the last on: " + cell, back.place(cell), 63 - cell);
        }
        check.due("a round of all", front.enter("H8", "=A1"), Sheet.STATE);
        front.wipe();
        check.due("all are changed", front.enter("H8", "5"), "64");
        check.due("all are worked out", front.worked(), 64);
        check.due("the last of the chain", front.shows("A1"), "5");
    }

    private static void nothingMovesWhenACellBecomesEmpty() {
        check.says("Nothing moves when a cell becomes empty");
        Sheet sheet = new Sheet().with("A1", "=C1").with("C1", "=E1");
        String before = sheet.places(FIRST_ROW);
        check.due("before", before, "4 1 2 3 0 5 6 7");
        sheet.clear("C1");
        check.due("by clear", sheet.places(FIRST_ROW), before);
        sheet.clear("A1");
        check.due("by clear again", sheet.places(FIRST_ROW), before);
        sheet = new Sheet().with("A1", "=C1").with("C1", "=E1");
        sheet.undo();
        check.due("by undo", sheet.places(FIRST_ROW), before);
        sheet.undo();
        check.due("by undo again", sheet.places(FIRST_ROW), before);
    }

    private static void onlyWhatRefersToAChangedOne() {
        check.says("the cell is WORKED OUT, and .. each cell that refers to one whose value has become another one thereby");
        Sheet sheet = new Sheet().with("A1", "1").with("B1", "=A1>0").with("C1", "=B1").with("D1", "=A1")
                .with("E1", "=C1+D1").with("F1", "=IF(1,2,A1)");
        check.due("changed by the same value", sheet.enter("A1", "=2-1"), "0");
        check.due("worked by the same value", sheet.worked(), 1);
        check.due("changed by another one", sheet.enter("A1", "2"), "3");
        check.due("A1, B1, D1, E1 and F1, but not C1", sheet.worked(), 5);
        check.due("the changed ones", sheet.changed(), "A1 D1 E1");
        check.due("changed in all", sheet.enter("A1", "-1"), "5");
        check.due("worked in all", sheet.worked(), 6);
        check.due("the changed ones of all", sheet.changed(), "A1 B1 C1 D1 E1");
        check.due("what it refers to is not worked out", sheet.enter("E1", "=C1+D1+1"), "1");
        check.due("E1 alone", sheet.worked(), 1);
        check.due("one that nothing refers to", sheet.enter("H8", "1"), "1");
        check.due("H8 alone", sheet.worked(), 1);
    }

    private static void eachOnceInTheOrderOfPlaces() {
        check.says("in the order of their places");
        Sheet sheet = new Sheet().with("D1", "1").with("C1", "=D1").with("B1", "=-D1").with("A1", "=B1+C1")
                .with("H1", "=A1");
        check.due("changed", sheet.enter("D1", "2"), "3");
        check.due("A1 once, with both sides new", sheet.worked(), 4);
        check.due("A1 stays", sheet.shows("A1"), "0");
        check.due("places", sheet.places("A1 B1 C1 D1"), "3 1 2 0");
        check.due("by places", sheet.changed(), "D1 B1 C1");
        sheet = new Sheet().with("C1", "=A1").with("B1", "=C1").with("D1", "=B1+A1");
        check.due("changed in a chain", sheet.enter("A1", "1"), "4");
        check.due("C1 before B1", sheet.changed(), "A1 C1 B1 D1");
        check.due("D1 has the sum", sheet.shows("D1"), "2");
        check.due("the farthest first", new Sheet().with("A1", "=H8").enter("A1", "=H8+1"), "1");
        sheet = new Sheet().with("A1", "=H8");
        sheet.enter("H8", "9");
        check.due("H8 stands before A1", sheet.changed(), "H8 A1");
    }

    private static void allCellsAtOnce() {
        check.says("each cell that refers to one whose value has become another one");
        Sheet sheet = new Sheet();
        for (int cell = 1; cell < 64; cell++) {
            sheet.with(Sheet.name(cell), "=A1");
        }
        check.due("all are changed", sheet.enter("A1", "7"), "64");
        check.due("all are worked out", sheet.worked(), 64);
        for (int i = 0; i < 64; i++) {
            check.due("changed " + i, sheet.changed(i), i);
        }
        check.due("changed 64", sheet.changed(64), -1);
        check.due("the first alone becomes empty, all others 0", sheet.clear("A1"), "64");
        check.due("0 and empty are one for names", sheet.enter("A1", "0"), "1");
        check.due("yet all are worked out", sheet.worked(), 64);
    }

    private static final String[] TEXTS = {"", "0", "5", "-5", "=65536*65536", "=65536*65536+5", "=1/0", "=MIN(H8:H8)"};

    private static void anotherValue() {
        check.says("a number another number, or empty, a number, error 1 and error 2 one another");
        for (int from = 0; from < TEXTS.length; from++) {
            for (int to = 0; to < TEXTS.length; to++) {
                if (from != 0 || to != 0) {
                    becomes(TEXTS[from], TEXTS[to], from != to);
                }
            }
        }
        becomes("5", "=2+3", false);
        becomes("0", "-0", false);
        becomes("=1/0", "=5%0", false);
        becomes("=MIN(H8:H8)", "=MAX(G8:H8)", false);
        becomes("=1/0", "=IF(1/0,2,3)", false);
        becomes("=1/0", "=5+7/0", false);
        becomes("=9/0", "=0/0", false);
        becomes("", "=H8", true);
        becomes("0", "=H8", false);
    }

    /** B1 refers to A1, so it is worked out just when A1 has become another one. */
    private static void becomes(String from, String to, boolean other) {
        Sheet sheet = new Sheet().with("B1", "=COUNT(A1:A1)");
        if (!from.isEmpty()) {
            sheet.with("A1", from);
        }
        String answer = to.isEmpty() ? sheet.clear("A1") : sheet.enter("A1", to);
        String what = "'" + from + "' becomes '" + to + "': ";
        check.due(what + "answer", answer.equals("0"), !other);
        check.due(what + "A1 is changed", sheet.changed(0), other ? 0 : -1);
        check.due(what + "worked", sheet.worked(), other ? 2 : 1);
        sheet.undo();
        check.due(what + "back again, A1 is changed", sheet.changed(0), other ? 0 : -1);
        check.due(what + "back again, worked", sheet.worked(), other ? 2 : 1);
    }

    private static void theChangedCells() {
        check.says("Those whose value has become another one .. are the CHANGED cells, in the order of their places");
        Sheet sheet = new Sheet().with("A1", "=B1").with("D1", "=A1").with("C1", "=D1").with("H1", "=C1*0");
        check.due("places", sheet.places(FIRST_ROW), "1 0 3 2 4 5 6 7");
        check.due("by enter", sheet.enter("B1", "3"), "4");
        check.due("by enter, which", sheet.changed(), "B1 A1 D1 C1");
        check.due("by clear", sheet.clear("B1"), "4");
        check.due("by clear, which", sheet.changed(), "B1 A1 D1 C1");
        check.due("by undo", sheet.undo(), "4");
        check.due("by undo, which", sheet.changed(), "B1 A1 D1 C1");
        check.due("none of them", sheet.enter("B1", "3"), "0");
        check.due("none of them, which", sheet.changed(), "");
        check.due("one of them", sheet.enter("H1", "1"), "1");
        check.due("one of them, which", sheet.changed(), "H1");
        // The order is brought up to date before: C1, now before D1, is told first.
        sheet.with("C1", "=B1").with("D1", "=C1");
        check.due("by the places of now", sheet.enter("B1", "4"), "4");
        check.due("by the places of now, which", sheet.changed(), "B1 A1 C1 D1");
    }

    private static void theLogGrows() {
        check.says("THE LOG has, for each change that was made by enter or clear and not taken back, the cell and what it had before");
        Sheet sheet = new Sheet();
        check.due("at first", sheet.log(), 0);
        sheet.clear("A1");
        check.due("by clear of an empty one", sheet.log(), 0);
        sheet.enter("A1", "=A1");
        check.due("by a round", sheet.log(), 0);
        sheet.wipe();
        sheet.enter("A1", "=");
        check.due("by no content", sheet.log(), 0);
        sheet.wipe();
        sheet.with("A1", "5");
        check.due("by enter", sheet.log(), 1);
        sheet.with("A1", "5");
        check.due("by enter of what it has", sheet.log(), 2);
        sheet.clear("A1");
        check.due("by clear", sheet.log(), 3);
        sheet.clear("A1");
        check.due("by clear of one that is empty again", sheet.log(), 3);
        sheet.undo();
        check.due("by undo", sheet.log(), 2);
        sheet.wipe();
        sheet.type("1");
        check.due("by type and wipe", sheet.log(), 2);
    }

    private static void theLatestTwenty() {
        check.says("of more than 20 only the latest 20");
        for (int changes = 18; changes <= 45; changes++) {
            Sheet sheet = new Sheet();
            for (int i = 1; i <= changes; i++) {
                sheet.with("A1", String.valueOf(i));
                check.due("log behind change " + i, sheet.log(), Math.min(i, 20));
            }
            int kept = Math.min(changes, 20);
            for (int back = 1; back <= kept; back++) {
                sheet.undo();
                String due = changes == back ? "empty" : String.valueOf(changes - back);
                check.due("taken back " + back + " of " + changes, sheet.shows("A1"), due);
                check.due("log behind it", sheet.log(), kept - back);
            }
            check.due("no more of " + changes, sheet.undo(), Sheet.ELEMENT);
            check.due("what is left of " + changes, sheet.shows("A1"), changes <= 20
                    ? "empty" : String.valueOf(changes - 20));
        }
        Sheet sheet = new Sheet();
        for (int cell = 0; cell < 30; cell++) {
            sheet.with(Sheet.name(cell), "1");
        }
        for (int cell = 29; cell >= 10; cell--) {
            check.due("undo of " + Sheet.name(cell), sheet.undo(), "1");
            check.due("its cell", sheet.changed(0), cell);
        }
        check.due("the first ten stay", sheet.undo(), Sheet.ELEMENT);
        check.due("the tenth", sheet.shows(Sheet.name(9)), "1");
        check.due("the eleventh", sheet.shows(Sheet.name(10)), "empty");
    }

    private static void notTakenBack() {
        check.says("and not taken back; of more than 20 only the latest 20");
        Sheet sheet = new Sheet();
        for (int i = 1; i <= 25; i++) {
            sheet.with("A1", String.valueOf(i));
        }
        for (int i = 0; i < 5; i++) {
            sheet.undo();
        }
        check.due("those that fell out do not come back", sheet.log(), 15);
        sheet.with("A1", "100");
        check.due("one more", sheet.log(), 16);
        for (int i = 0; i < 4; i++) {
            sheet.with("B1", String.valueOf(i));
        }
        check.due("full again", sheet.log(), 20);
        sheet.clear("B1");
        check.due("full still", sheet.log(), 20);
        for (int i = 0; i < 5; i++) {
            sheet.undo();
        }
        check.due("B1 is empty again", sheet.shows("B1"), "empty");
        check.due("A1 has the new one", sheet.shows("A1"), "100");
        sheet.undo();
        check.due("A1 has what it had before that", sheet.shows("A1"), "20");
        for (int i = 0; i < 14; i++) {
            sheet.undo();
        }
        check.due("none any more", sheet.log(), 0);
        check.due("as far as it goes", sheet.shows("A1"), "6");
        check.due("and no farther", sheet.undo(), Sheet.ELEMENT);
    }

    private static void whatItHadBefore() {
        check.says("the cell and what it had before");
        String forty = "=" + "1+".repeat(19) + "1";
        Sheet sheet = new Sheet().with("H8", forty).with("H8", "-7").with("H8", "=1/0");
        sheet.clear("H8");
        sheet.with("A1", "1");
        sheet.undo();
        check.due("A1 was empty", sheet.shows("A1"), "empty");
        sheet.undo();
        check.due("an error again", sheet.content("H8") + " is " + sheet.shows("H8"), "=1/0 is error 1");
        sheet.undo();
        check.due("a number again", sheet.content("H8") + " is " + sheet.shows("H8"), "-7 is -7");
        sheet.undo();
        check.due("forty characters again", sheet.content("H8") + " is " + sheet.shows("H8"), forty + " is 20");
        sheet.undo();
        check.due("empty again", sheet.content("H8") + " is " + sheet.shows("H8"), " is empty");
        check.due("the log", sheet.log(), 0);
    }
}
