/** The boundary cases of "Terms" on names, contents and what a content refers to: a method for each sentence. */
public final class GrammarEdgesTest {
    private static final String DIGITS = "0123456789";
    private static final String LETTERS = "ABCDEFGH";

    private static final Check check = new Check();

    public static void main(String[] args) {
        cellsAndNames();
        oneToFortyCharacters();
        aNumberHasOneMinusAtMost();
        oneToNineDigits();
        aTenthDigitIsOneTooMany();
        oneComparisonAtMost();
        theLongerComparisonIsRead();
        anyNumberOfProducts();
        anyNumberOfFactors();
        anyNumberOfMinuses();
        bracketsHoldAnExpression();
        ifHasThree();
        functionsHaveOneArgumentAtLeast();
        rangesAreArgumentsAlone();
        nothingElse();
        wordsAsTheyStand();
        eightDeep();
        everyNameIsAReference();
        rangesFromAnyCorner();
        theGreatestRanges();
        check.end();
    }

    /** The text is taken as it stands by a cell that is in none of the texts. */
    private static void taken(String text) {
        Sheet sheet = new Sheet();
        check.due("type " + text, sheet.type(text), text.length());
        check.due("enter " + text, sheet.enter(Sheet.cell("G7")), "1");
        check.due("content of " + text, sheet.content("G7"), text);
    }

    private static void refused(String text) {
        Sheet sheet = new Sheet();
        check.due("type " + text, sheet.type(text), text.length());
        check.due("enter " + text, sheet.enter(Sheet.cell("G7")), Sheet.ARGUMENT);
        check.due("the cell behind " + text, sheet.shows("G7"), "empty");
        check.due("log behind " + text, sheet.log(), 0);
        check.due("still typed " + text, sheet.wipe(), text.length());
    }

    private static void allTaken(String... texts) {
        for (String text : texts) {
            taken(text);
        }
    }

    private static void allRefused(String... texts) {
        for (String text : texts) {
            refused(text);
        }
    }

    /** Of all characters that can be typed just these are taken between the two parts. */
    private static void takenBetween(String before, String characters, String behind) {
        for (char c = 32; c <= 126; c++) {
            String text = before + c + behind;
            if (characters.indexOf(c) >= 0) {
                taken(text);
            } else {
                refused(text);
            }
        }
    }

    private static void cellsAndNames() {
        check.says("cell 8 * r + c is in column c and row r; its NAME is one of the letters A .. H .. and 1 .. 8");
        for (int cell = 0; cell < 64; cell++) {
            Sheet sheet = new Sheet();
            String other = cell == 0 ? "H8" : "A1";
            sheet.with(other, "=" + Sheet.name(cell));
            check.due("the cell of " + Sheet.name(cell), sheet.refers(Sheet.cell(other)), 1L << cell);
            sheet.with(Sheet.name(cell), "77");
            check.due("the value of " + Sheet.name(cell), sheet.shows(other), "77");
        }
        takenBetween("=", DIGITS + "-" + LETTERS, "1");
        takenBetween("=A", "12345678", "");
        takenBetween("=H", "12345678", "");
        allRefused("=@1", "=I1", "=Z1", "=a1", "=h8", "=A0", "=A9", "=A:", "=A/", "=A", "=H", "=1A", "=AA", "=A1A",
                "=A11", "=A01");
        allRefused("=SUM(@1:A1)", "=SUM(A1:I1)", "=SUM(A1:A9)", "=SUM(A0:A1)", "=SUM(I8:H8)", "=SUM(A9:A8)");
    }

    private static void oneToFortyCharacters() {
        check.says("a text of 1 to 40 characters");
        Sheet sheet = new Sheet();
        check.due("enter nothing", sheet.enter(0), Sheet.ARGUMENT);
        check.due("the cell behind it", sheet.shows("A1"), "empty");
        taken("7");
        taken("=7");
        for (int length = 2; length <= 40; length++) {
            // Pairs of "+1" behind "=1", or behind "=11" when there is one character more.
            String text = (length % 2 == 0 ? "=1" : "=11") + "+1".repeat((length - 2) / 2);
            check.due("the length of " + text, text.length(), length);
            taken(text);
        }
        sheet = new Sheet();
        sheet.type("=" + "1+".repeat(19) + "1");
        check.due("a character more", sheet.type('1', 1), -1);
        check.due("forty are entered", sheet.enter(0), "1");
        check.due("the sum of twenty", sheet.shows("A1"), "20");
        check.due("the last character", sheet.content(0, 39), (int) '1');
        check.due("none behind it", sheet.content(0, 40), -1);
    }

    private static void aNumberHasOneMinusAtMost() {
        check.says("CONTENT: [-] DIGITS | = EXPRESSION");
        takenBetween("", DIGITS, "");
        takenBetween("", "-=" + DIGITS, "1");
        takenBetween("-", DIGITS, "");
        takenBetween("1", DIGITS, "");
        takenBetween("=", DIGITS, "");
        takenBetween("1", DIGITS, "1");
        takenBetween("-1", DIGITS, "1");
        allTaken("-0", "0", "00", "-1", "=-1");
        allRefused("-", "--", "--1", "-=1", "=", "==", "==1", "=-", "1-", "1=", "1=1", "1+1", "1*1", "-1-1", "(1)",
                "A1", "-A1", "SUM(1)", "IF(1,2,3)", "-(1)");
    }

    private static void oneToNineDigits() {
        check.says("DIGITS: one to nine digits");
        for (int length = 1; length <= 9; length++) {
            String nines = "9".repeat(length);
            String zeros = "0".repeat(length);
            allTaken(nines, "-" + nines, "=" + nines, "=-" + nines, zeros, "-" + zeros, "=" + zeros);
            Sheet sheet = new Sheet().with("A1", nines).with("B1", "-" + nines).with("C1", "=" + nines)
                    .with("D1", "0".repeat(length - 1) + "8");
            check.due(nines, sheet.shows("A1"), nines);
            check.due("-" + nines, sheet.shows("B1"), "-" + nines);
            check.due("=" + nines, sheet.shows("C1"), nines);
            check.due("noughts before an eight, " + length, sheet.shows("D1"), "8");
        }
        allRefused("", "-", "=-", "=1+", "=(-)", "=SUM(1,)", "=IF(1,-,1)", "=<1", "=1*");
    }

    private static void aTenthDigitIsOneTooMany() {
        check.says("Digits are read as far as there are any: a tenth digit is one too many");
        for (String ten : new String[] {"1234567890", "0000000000", "0000000001", "9999999999", "01234567890",
                "2147483648"}) {
            allRefused(ten, "-" + ten, "=" + ten, "=-" + ten, "=1+" + ten, "=" + ten + "+1", "=(" + ten + ")",
                    "=1<" + ten, "=SUM(" + ten + ")", "=SUM(1," + ten + ")", "=IF(" + ten + ",2,3)",
                    "=IF(1," + ten + ",3)", "=IF(1,2," + ten + ")");
        }
        allTaken("=123456789+123456789", "=IF(123456789,123456789,123456789)", "=SUM(123456789,123456789)");
        allRefused("0".repeat(40), "=" + "0".repeat(39), "=A12", "=A1234567890");
    }

    private static void oneComparisonAtMost() {
        check.says("EXPRESSION: SUM [ (<> | <= | >= | < | > | =) SUM ]");
        String[] comparisons = {"<>", "<=", ">=", "<", ">", "="};
        for (String one : comparisons) {
            allTaken("=1" + one + "2", "=1" + one + "-2", "=1+1" + one + "2*2", "=SUM(1" + one + "2)",
                    "=IF(1" + one + "2,3,4)", "=IF(1,2" + one + "3,4)", "=IF(1,2,3" + one + "4)", "=(1" + one + "2)",
                    "=-(1" + one + "2)");
            allRefused("=" + one + "1", "=1" + one, "=" + one, "=1+" + one + "2", "=1" + one + "+2", "=1" + one + "*2");
            for (String other : comparisons) {
                refused("=1" + one + "2" + other + "3");
                taken("=(1" + one + "2)" + other + "3");
                taken("=1" + one + "(2" + other + "3)");
            }
        }
    }

    private static void theLongerComparisonIsRead() {
        check.says("of <>, <=, >= and <, > the longer one is read where it can be");
        takenBetween("=1<", "=>-" + DIGITS + LETTERS, "1");
        takenBetween("=1>", "=-" + DIGITS + LETTERS, "1");
        takenBetween("=1=", "-" + DIGITS + LETTERS, "1");
        takenBetween("=1<>", "-" + DIGITS + LETTERS, "1");
        takenBetween("=1<=", "-" + DIGITS + LETTERS, "1");
        takenBetween("=1>=", "-" + DIGITS + LETTERS, "1");
        allRefused("=1=<2", "=1=>2", "=1><2", "=1<<2", "=1>>2", "=1==2", "=1<>=2", "=1<=>2", "=1>=<2", "=1<=", "=1>=",
                "=1<>", "=1< =2", "=1> =2", "=1< >2");
        Sheet sheet = new Sheet().with("A1", "=1<>1").with("B1", "=1<=1").with("C1", "=1>=1").with("D1", "=2<>1")
                .with("E1", "=2<=1").with("F1", "=1>=2");
        check.due("1<>1", sheet.shows("A1"), "0");
        check.due("1<=1", sheet.shows("B1"), "1");
        check.due("1>=1", sheet.shows("C1"), "1");
        check.due("2<>1", sheet.shows("D1"), "1");
        check.due("2<=1", sheet.shows("E1"), "0");
        check.due("1>=2", sheet.shows("F1"), "0");
    }

    private static void anyNumberOfProducts() {
        check.says("SUM: PRODUCT ( (+ | -) PRODUCT )*");
        for (int more = 0; more <= 19; more++) {
            allTaken("=1" + "+1".repeat(more), "=1" + "-1".repeat(more));
            Sheet sheet = new Sheet().with("A1", "=1" + "+1".repeat(more)).with("B1", "=1" + "-1".repeat(more));
            check.due(more + " times +1", sheet.shows("A1"), String.valueOf(1 + more));
            check.due(more + " times -1", sheet.shows("B1"), String.valueOf(1 - more));
        }
        allTaken("=1+2*3", "=1*2+3", "=1+-1", "=1--1");
        allRefused("=+1", "=1+", "=1-", "=1++1", "=1-+1", "=1+*1", "=1*+1", "=(+1)", "=SUM(+1)", "=IF(+1,2,3)", "=-+1");
    }

    private static void anyNumberOfFactors() {
        check.says("PRODUCT: FACTOR ( (* | / | %) FACTOR )*");
        for (int more = 0; more <= 19; more++) {
            allTaken("=2" + "*2".repeat(more), "=1" + "/1".repeat(more), "=1" + "%2".repeat(more));
            Sheet sheet = new Sheet().with("A1", "=2" + "*2".repeat(more)).with("B1", "=1" + "/1".repeat(more))
                    .with("C1", "=5" + "%7".repeat(more));
            check.due(more + " times *2", sheet.shows("A1"), String.valueOf(2L << more));
            check.due(more + " times /1", sheet.shows("B1"), "1");
            check.due(more + " times %7", sheet.shows("C1"), "5");
        }
        takenBetween("=1", DIGITS + "+-*/%<>=", "1");
        allTaken("=1*-1", "=1/-1", "=1%--1");
        allRefused("=*1", "=/1", "=%1", "=1*", "=1/", "=1%", "=1**1", "=1//1", "=1%%1", "=1*/1", "=(*1)", "=50%+1");
    }

    private static void anyNumberOfMinuses() {
        check.says("FACTOR: - FACTOR");
        for (int minuses = 0; minuses <= 38; minuses++) {
            String text = "=" + "-".repeat(minuses) + "1";
            taken(text);
            check.due("the value of " + text, new Sheet().with("A1", text).shows("A1"), minuses % 2 == 0 ? "1" : "-1");
        }
        allTaken("=-A1", "=--A1", "=-(1)", "=-IF(1,2,3)", "=--SUM(1)", "=1--1", "=1---1", "=1*--1", "=1<--1",
                "=SUM(--1)", "=IF(-1,-2,-3)");
        allRefused("=" + "-".repeat(39), "=-", "=--", "=1-", "=1--", "=-+1", "=-*1", "=-)", "=(-)", "=SUM(-)", "=-,1");
    }

    private static void bracketsHoldAnExpression() {
        check.says("\"(\" EXPRESSION \")\"");
        takenBetween("=", "(", "1)");
        takenBetween("=(1", ")", "");
        allTaken("=(1)", "=((1))", "=(A1)", "=(1)+(2)", "=((1)+(2))", "=(1<2)", "=(-1)", "=(1)*(2)<(3)");
        allRefused("=(", "=)", "=()", "=(1", "=1)", "=((1)", "=(1))", "=)1(", "=(1)(2)", "=1(2)", "=(1)2", "=A1(2)",
                "=(1,2)", "=(1+)", "=-()", "=(()", "=())", "=(1)+(2", "=(1)+2)", "(1)", "=[1]", "={1}");
    }

    private static void ifHasThree() {
        check.says("IF \"(\" EXPRESSION , EXPRESSION , EXPRESSION \")\"");
        allTaken("=IF(1,2,3)", "=IF(1<2,3<4,5<6)", "=IF(A1,B1,C1)", "=IF((1),(2),(3))",
                "=IF(IF(1,2,3),IF(1,2,3),IF(1,2,3))", "=IF(-1,-2,-3)", "=1+IF(1,2,3)*2");
        allRefused("=IF", "=IF(", "=IF()", "=IF(,)", "=IF(,,)", "=IF(1)", "=IF(1,)", "=IF(1,2)", "=IF(1,2,)",
                "=IF(1,,3)", "=IF(,2,3)", "=IF(1,2,3,4)", "=IF(1,2,3,)", "=IF(1,2,3", "=IF1,2,3", "=IF1", "=IF,",
                "=IF(1;2;3)", "=IF(1,2 3)", "=IF(1,2,3))", "=IF(1,2,3)4", "=IF(1,2,3)IF(1,2,3)", "=IF((1,2,3))");
        takenBetween("=IF(1", ",", "2,3)");
        takenBetween("=IF(1,2,3", ")", "");
    }

    private static void functionsHaveOneArgumentAtLeast() {
        check.says("(SUM | MIN | MAX | COUNT) \"(\" ARGUMENT ( , ARGUMENT )* \")\"");
        for (String name : new String[] {"SUM", "MIN", "MAX", "COUNT"}) {
            String open = "=" + name + "(";
            allRefused(open, open + ")", open + ",)", open + ",1)", open + "1,)", open + "1,,2)", open + "1",
                    open + "1,2", "=" + name, "=" + name + "1", open + "1))", open + "1)2", "=" + name + ")",
                    "=" + name + "()()", open + "1;2)", open + "A1:B2", open + "A1:B2,)", open + ",A1:B2)");
            int most = (40 - open.length()) / 2;
            for (int arguments = 1; arguments <= most; arguments++) {
                String text = open + "1,".repeat(arguments - 1) + "1)";
                taken(text);
                boolean adds = name.equals("SUM") || name.equals("COUNT");
                check.due("the value of " + text, new Sheet().with("A1", text).shows("A1"), adds
                        ? String.valueOf(arguments) : "1");
            }
            allTaken(open + "A1)", open + "A1:A1)", open + "A1:B2,C3:D4,E5:F6)", open + "1,A1:B2,2)",
                    open + "1<2,(3),-4)", "=-" + name + "(1)");
            takenBetween(open + "1", ")", "");
        }
    }

    private static void rangesAreArgumentsAlone() {
        check.says("ARGUMENT: NAME : NAME | EXPRESSION");
        allRefused("=A1:B2", "=(A1:B2)", "=-A1:B2", "=1+A1:B2", "=A1:B2+1", "=A1:B2=1", "=IF(A1:B2,1,2)",
                "=IF(1,A1:B2,2)", "=IF(1,2,A1:B2)");
        allRefused("=SUM((A1:B2))", "=SUM(-A1:B2)", "=SUM(A1:B2+1)", "=SUM(1+A1:B2)", "=SUM(A1:B2*2)", "=SUM(A1:B2<1)",
                "=SUM(1<A1:B2)", "=SUM(A1:B2:C3)", "=SUM(A1:)", "=SUM(:B2)", "=SUM(:)", "=SUM(A1::B2)", "=SUM(A1:1)",
                "=SUM(11:B2)", "=SUM(1:2)", "=SUM(A1:B)", "=SUM(A:B)", "=SUM(A1:B22)", "=SUM(A11:B2)", "=SUM(A1:-B2)",
                "=SUM(A1:(B2))", "=SUM((A1):B2)", "=SUM(A1 :B2)", "=SUM(A1: B2)", "=SUM(A1:SUM(B2))",
                "=SUM(IF(1,A1:B2,2))", "=SUM(-1:B2)", "=SUM(A1:B2(1))", "=SUM(A1:B21)", "=SUM(1,A1:)",
                "=SUM(A1:B2,C1:)");
        takenBetween("=SUM(A1", "+-*/%<>=,:", "B2)");
        takenBetween("=SUM(A1:", LETTERS, "1)");
        takenBetween("=SUM(A1:A", "12345678", ")");
        takenBetween("=SUM(A1:B2", ")", "");
        takenBetween("=SUM(A1:B2", ",", "3)");
        takenBetween("=SUM(", LETTERS, "1:B2)");
        takenBetween("=SUM(A", "12345678", ":B2)");
    }

    private static void nothingElse() {
        check.says("There is nothing else in it, no blanks");
        for (String text : new String[] {"12", "-12", "=1+A1", "=IF(1,2,3)", "=SUM(A1:B2,-3)", "=1<>2",
                "=(COUNT(1))"}) {
            for (int at = 0; at <= text.length(); at++) {
                for (char c : " !\"#$&';?@IJZ[\\]^_`abz{|}~.".toCharArray()) {
                    refused(text.substring(0, at) + c + text.substring(at));
                }
            }
        }
        allRefused(" ", "  ", " ".repeat(40), "= ", "=1 ", " =1", "- 1", "1 2", "=1 2", "=A 1", "=I F(1,2,3)", "=1< =2",
                "=1.5", "=1E3", "1.0", "1,5", "=TRUE");
    }

    /** Each character of the words matters: any other one in its place is refused. */
    private static void wordsAsTheyStand() {
        check.says("IF | SUM | MIN | MAX | COUNT");
        for (String text : new String[] {"=IF(1,2,3)", "=SUM(1)", "=MIN(1)", "=MAX(1)", "=COUNT(1)"}) {
            for (int at = 1; at <= text.indexOf('('); at++) {
                takenBetween(text.substring(0, at), String.valueOf(text.charAt(at)), text.substring(at + 1));
                refused(text.substring(0, at) + text.substring(at + 1));
            }
        }
        allRefused("=sum(1)", "=Sum(1)", "=if(1,2,3)", "=AVG(1)", "=SUMM(1)", "=SSUM(1)", "=COUNTS(1)", "=MINMAX(1)",
                "=ISUM(1)", "=SU", "=COUN", "=M", "=I", "=C");
    }

    private static String nested(String before, int deep, String behind) {
        return before + "(".repeat(deep) + "1" + ")".repeat(deep) + behind;
    }

    private static void eightDeep() {
        check.says("Brackets, those of IF and of functions too, lie inside one another at most eight deep");
        for (int deep = 0; deep <= 19; deep++) {
            String text = nested("=", deep, "");
            if (deep <= 8) {
                taken(text);
            } else {
                refused(text);
            }
        }
        for (String[] around : new String[][] {
            {"=SUM(", ")"}, {"=MIN(", ")"}, {"=MAX(", ")"}, {"=COUNT(", ")"}, {"=SUM(1,", ")"}, {"=SUM(", ",1)"},
            {"=IF(", ",1,1)"}, {"=IF(1,", ",1)"}, {"=IF(1,1,", ")"}, {"=SUM(A1:A2,", ")"}, {"=1+(", "+1)"},
            {"=-(-", ")"}, {"=(1<", ")"}, {"=(2*", ")"},
        }) {
            taken(nested(around[0], 7, around[1]));
            refused(nested(around[0], 8, around[1]));
        }
        for (String inner : new String[] {"SUM(1)", "MIN(1)", "MAX(1)", "COUNT(1)", "SUM(A1:B2)", "IF(1,2,3)",
                "IF(0,2,3)", "(1)", "-(1)"}) {
            taken("=" + "(".repeat(7) + inner + ")".repeat(7));
            refused("=" + "(".repeat(8) + inner + ")".repeat(8));
        }
        taken("=" + "SUM(".repeat(7) + "1" + ")".repeat(7));
        taken("=SUM(SUM(SUM(SUM(SUM(SUM(((1))))))))");
        refused("=SUM(SUM(SUM(SUM(SUM(SUM((((1)))))))))");
        // Side by side is not inside one another.
        allTaken(nested("=", 8, "") + nested("+", 8, ""), "=" + "(1)+".repeat(9) + "1",
                nested("=SUM(", 7, ",") + nested("", 7, ")"));
        allRefused(nested("=", 8, "") + nested("+", 9, ""), nested("=", 9, "") + nested("+", 8, ""),
                nested("=SUM(", 7, ",") + nested("", 8, ")"));
        allRefused("=" + "(".repeat(39), "=" + "SUM(".repeat(9) + "1", "=" + "IF(".repeat(13), "=" + "(".repeat(8),
                "=" + "(".repeat(9));
        check.due("the value of eight", new Sheet().with("A1", nested("=-", 8, "")).shows("A1"), "-1");
        check.due("the value of eight with functions", new Sheet()
                .with("A1", "=SUM(1,SUM(1,SUM(1,SUM(1,((((1))))))))").shows("A1"), "5");
    }

    private static void refersTo(String text, long cells) {
        check.due("what " + text + " refers to", new Sheet().with("G7", text).refers(Sheet.cell("G7")), cells);
    }

    private static void everyNameIsAReference() {
        check.says("A content REFERS TO every cell whose name stands in it");
        refersTo("7", 0L);
        refersTo("-7", 0L);
        refersTo("=7", 0L);
        refersTo("=A1", 1L);
        refersTo("=H8", Long.MIN_VALUE);
        refersTo("=A1+A1", 1L);
        refersTo("=A1+H8", Long.MIN_VALUE + 1);
        refersTo("=H8+H8", Long.MIN_VALUE);
        refersTo("=0*B1", 2L);
        refersTo("=1/0+B1", 2L);
        refersTo("=IF(1,A1,B1)", 3L);
        refersTo("=IF(0,A1,B1)", 3L);
        refersTo("=IF(1/0,A1,B1)", 3L);
        refersTo("=IF(A1,B1,C1)", 7L);
        refersTo("=IF(1,2,SUM(A1:C1))", 7L);
        refersTo("=SUM(1/0,A1)", 1L);
        refersTo("=SUM(1/0,A1:B1)", 3L);
        refersTo("=-(-(C1))", 4L);
        refersTo("=A1<B1", 3L);
        refersTo("=SUM(A1,B1,C1:D1)", 15L);
        refersTo("=A1+B1-C1*D1/E1%F1<G1+H1", 255L);
    }

    private static void rangesFromAnyCorner() {
        check.says("all cells in the columns and rows from the one's to the other's (whichever is the greater ..)");
        for (int one = 0; one < 64; one++) {
            // A step that shares no factor with 64 leads to all of them, at different distances.
            int other = (one * 27 + 11) % 64;
            long cells = 0;
            for (int cell = 0; cell < 64; cell++) {
                boolean row = Math.min(one / 8, other / 8) <= cell / 8 && cell / 8 <= Math.max(one / 8, other / 8);
                boolean column = Math.min(one % 8, other % 8) <= cell % 8 && cell % 8 <= Math.max(one % 8, other % 8);
                cells |= row && column ? 1L << cell : 0;
            }
            String free = Sheet.name(Long.numberOfTrailingZeros(~cells));
            for (String text : new String[] {Sheet.name(one) + ":" + Sheet.name(other),
                    Sheet.name(other) + ":" + Sheet.name(one)}) {
                check.due(text, new Sheet().with(free, "=COUNT(" + text + ")").refers(Sheet.cell(free)), cells);
            }
        }
        for (String corners : new String[] {"B2:C4", "C4:B2", "C2:B4", "B4:C2"}) {
            refersTo("=SUM(" + corners + ")", 0x0606_0600L);
        }
        refersTo("=SUM(C3:C3)", 1L << Sheet.cell("C3"));
        refersTo("=SUM(A1:H1)", 0xFFL);
        refersTo("=SUM(H8:A8)", 0xFF00_0000_0000_0000L);
        refersTo("=SUM(A1:A8)", 0x0101_0101_0101_0101L);
        refersTo("=SUM(H8:H1)", 0x8080_8080_8080_8080L);
        check.says("worked out or not");
        refersTo("=IF(1,2,COUNT(A1:B2))", 0x0303L);
        refersTo("=SUM(1/0,A1:B2)", 0x0303L);
    }

    private static void theGreatestRanges() {
        check.says("NAME : NAME to all cells");
        Sheet sheet = new Sheet().with("H8", "=COUNT(A1:H7,A8:G8)");
        check.due("all but the last", sheet.refers(63), Long.MAX_VALUE);
        check.due("no number in them", sheet.shows("H8"), "0");
        sheet = new Sheet().with("A1", "=COUNT(B1:H1,A2:H8)");
        check.due("all but the first", sheet.refers(0), -2L);
        for (String text : new String[] {"=SUM(A1:H8)", "=SUM(H8:A1)", "=SUM(A8:H1)", "=SUM(H1:A8)"}) {
            check.due("all there are: " + text, new Sheet().enter("D4", text), Sheet.STATE);
        }
    }
}
