/** The boundary cases of "Terms" on the values of cells: a method for each sentence. */
public final class ValueEdgesTest {
    private static final String LEAST = String.valueOf(Long.MIN_VALUE);
    private static final String GREATEST = String.valueOf(Long.MAX_VALUE);
    private static final String[] OPERATORS = {"+", "-", "*", "/", "%", "<>", "<=", ">=", "<", ">", "="};
    private static final String[] FUNCTIONS = {"SUM", "MIN", "MAX", "COUNT"};

    private static final Check check = new Check();

    public static void main(String[] args) {
        emptyNumberOrError();
        everythingWraps();
        leftErrorFirst();
        roundingTowardsZero();
        byZero();
        comparisonsAtTheirEdges();
        negativeOfAnError();
        namesOfEmptyCells();
        ifItsFirstIsAnError();
        ifNotZero();
        theOtherOneIsNotWorkedOut();
        leftToRight();
        rowByRow();
        emptyOnesAreLeftOut();
        theFirstError();
        leastAndGreatest();
        numberOfTheNumbers();
        minAndMaxOfNoNumber();
        functionsInsideFunctions();
        check.end();
    }

    /** A1 is error 1, B1 error 2, C1 the least long, D1 the greatest, E1 2^32, F1 0; all else but G8 is empty. */
    private static Sheet prepared() {
        return new Sheet().with("A1", "=1/0").with("B1", "=MIN(H8:H8)").with("C1", "=65536*65536*65536*32768")
                .with("D1", "=C1-1")
                .with("E1", "=65536*65536").with("F1", "0");
    }

    private static void works(String text, String want) {
        check.due(text, prepared().with("G8", text).shows("G8"), want);
    }

    private static void works(String text, long want) {
        works(text, String.valueOf(want));
    }

    private static void emptyNumberOrError() {
        check.says("THE VALUE of a cell is EMPTY for an empty one; otherwise a NUMBER .. or an ERROR, 1 or 2");
        Sheet sheet = prepared();
        check.due("A1", sheet.shows("A1"), "error 1");
        check.due("B1", sheet.shows("B1"), "error 2");
        check.due("C1", sheet.shows("C1"), LEAST);
        check.due("D1", sheet.shows("D1"), GREATEST);
        check.due("E1", sheet.shows("E1"), "4294967296");
        check.due("F1", sheet.shows("F1"), "0");
        check.due("G1", sheet.shows("G1"), "empty");
        works("-0", 0);
        works("999999999", 999999999);
        works("-999999999", -999999999);
        works("000000001", 1);
    }

    private static void everythingWraps() {
        check.says("a long, everything wrapping");
        works("=D1+1", LEAST);
        works("=1+D1", LEAST);
        works("=C1-1", GREATEST);
        works("=C1+-1", GREATEST);
        works("=-1-D1", LEAST);
        works("=-2-D1", GREATEST);
        works("=0-C1", LEAST);
        works("=-C1", LEAST);
        works("=--C1", LEAST);
        works("=-D1", -Long.MAX_VALUE);
        works("=D1+D1", -2);
        works("=C1+C1", 0);
        works("=D1*2", -2);
        works("=D1*D1", 1);
        works("=C1*C1", 0);
        works("=C1*-1", LEAST);
        works("=-1*C1", LEAST);
        works("=C1*3", LEAST);
        works("=E1*E1", 0);
        works("=C1/-1", LEAST);
        works("=C1%-1", 0);
        works("=D1/-1", -Long.MAX_VALUE);
        works("=C1/C1", 1);
        works("=D1/C1", 0);
        works("=C1/D1", -1);
        works("=C1%D1", -1);
        works("=D1%C1", GREATEST);
        works("=SUM(D1,1)", LEAST);
        works("=SUM(C1,-1)", GREATEST);
        works("=SUM(C1:D1)", -1);
        works("=SUM(C1,C1)", 0);
        works("=SUM(D1,D1,D1)", Long.MAX_VALUE - 2);
        works("=-SUM(C1:C1)", LEAST);
        // Nine digits twice is more than an int holds, and less than a long does.
        works("=999999999*999999999", 999999998000000001L);
        works("=999999999+999999999+999999999", 2999999997L);
        works("=-999999999-999999999-999999999", -2999999997L);
        works("=SUM(999999999,999999999,999999999)", 2999999997L);
        works("=999999999*999999999*999999999", 999999999L * 999999999L * 999999999L);
    }

    private static void leftErrorFirst() {
        check.says("Of an operation with two sides: the left one's error, if it is one, otherwise the right one's");
        for (String operator : OPERATORS) {
            works("=A1" + operator + "B1", "error 1");
            works("=B1" + operator + "A1", "error 2");
            works("=A1" + operator + "A1", "error 1");
            works("=B1" + operator + "B1", "error 2");
            works("=A1" + operator + "1", "error 1");
            works("=B1" + operator + "1", "error 2");
            works("=1" + operator + "A1", "error 1");
            works("=1" + operator + "B1", "error 2");
            works("=0" + operator + "B1", "error 2");
            works("=B1" + operator + "0", "error 2");
            works("=G1" + operator + "B1", "error 2");
            works("=B1" + operator + "G1", "error 2");
            works("=(1/0)" + operator + "B1", "error 1");
            works("=B1" + operator + "(1/0)", "error 2");
        }
        works("=1+B1+A1", "error 2");
        works("=1*A1*B1", "error 1");
        works("=1+A1*B1", "error 1");
        works("=B1/0", "error 2");
        works("=B1%0", "error 2");
        works("=0/0+B1", "error 1");
        works("=B1+0/0", "error 2");
    }

    private static void roundingTowardsZero() {
        check.says("/ and % rounding towards 0");
        for (int left = -9; left <= 9; left++) {
            for (int right = -4; right <= 4; right++) {
                if (right != 0) {
                    // By whole steps and not by Java's own operators.
                    int quotient = Math.abs(left) < Math.abs(right) ? 0 : steps(Math.abs(left), Math.abs(right));
                    quotient = left < 0 != right < 0 ? -quotient : quotient;
                    works("=" + left + "/" + right, quotient);
                    works("=" + left + "%" + right, left - quotient * right);
                }
            }
        }
        works("=0/-5", 0);
        works("=C1/2", Long.MIN_VALUE / 2);
        works("=C1/10", -922337203685477580L);
        works("=C1%10", -8);
        works("=D1/-10", -922337203685477580L);
        works("=D1%-10", 7);
        works("=-7/2*2", -6);
        works("=-1/2", 0);
        works("=1/-2", 0);
    }

    private static int steps(int left, int right) {
        int steps = 0;
        for (int rest = left; rest >= right; rest -= right) {
            steps++;
        }
        return steps;
    }

    private static void byZero() {
        check.says("error 1 if the right one is 0");
        for (String left : new String[] {"0", "1", "-1", "C1", "D1", "G1", "F1", "(1-1)"}) {
            for (String right : new String[] {"0", "-0", "000", "F1", "G1", "(1-1)", "-F1", "SUM(G1:H1)",
                    "COUNT(G1:H1)", "(1<0)", "(C1+C1)", "(E1*E1)"}) {
                works("=" + left + "/" + right, "error 1");
                works("=" + left + "%" + right, "error 1");
            }
        }
        works("=0/1", 0);
        works("=0%1", 0);
        works("=0/-1", 0);
        works("=1/E1", 0);
        works("=1%E1", 1);
        works("=C1/E1", -2147483648L);
        works("=0*1/0", "error 1");
        works("=1/0*0", "error 1");
    }

    private static void comparisonsAtTheirEdges() {
        check.says("a comparison is 1 if it holds, otherwise 0");
        String[][] pairs = {
            {"1", "2"}, {"2", "2"}, {"2", "1"}, {"-1", "0"}, {"0", "0"}, {"0", "-1"}, {"-1", "1"}, {"1", "-1"},
            {"C1", "D1"}, {"D1", "C1"}, {"C1", "C1"}, {"D1", "D1"}, {"C1", "-1"}, {"D1", "-1"}, {"C1", "1"},
            {"1", "C1"}, {"-1", "D1"}, {"0", "C1"}, {"0", "E1"}, {"E1", "0"}, {"E1+1", "1"}, {"G1", "0"}, {"0", "G1"},
            {"G1", "H1"}, {"1", "G1"}, {"D1-1", "D1"}, {"C1+1", "C1"}, {"G1", "-1"},
        };
        for (String[] pair : pairs) {
            int sign = Long.compare(number(pair[0]), number(pair[1]));
            works("=" + pair[0] + "<" + pair[1], sign < 0 ? 1 : 0);
            works("=" + pair[0] + ">" + pair[1], sign > 0 ? 1 : 0);
            works("=" + pair[0] + "=" + pair[1], sign == 0 ? 1 : 0);
            works("=" + pair[0] + "<>" + pair[1], sign == 0 ? 0 : 1);
            works("=" + pair[0] + "<=" + pair[1], sign > 0 ? 0 : 1);
            works("=" + pair[0] + ">=" + pair[1], sign < 0 ? 0 : 1);
        }
        works("=1+1<1", 0);
        works("=1<1+1", 1);
        works("=1+(1<2)", 2);
        works("=(2<1)-(1<2)", -1);
    }

    private static long number(String side) {
        switch (side) {
            case "C1": return Long.MIN_VALUE;
            case "C1+1": return Long.MIN_VALUE + 1;
            case "D1": return Long.MAX_VALUE;
            case "D1-1": return Long.MAX_VALUE - 1;
            case "E1": return 1L << 32;
            case "E1+1": return (1L << 32) + 1;
            case "G1":
            case "H1": return 0;
            default: return Long.parseLong(side);
        }
    }

    private static void negativeOfAnError() {
        check.says("The negative of an error is this error");
        works("=-A1", "error 1");
        works("=-B1", "error 2");
        works("=--A1", "error 1");
        works("=--B1", "error 2");
        works("=-(-B1)", "error 2");
        works("=-(1/0)", "error 1");
        works("=-MIN(G1:H1)", "error 2");
        works("=-B1+A1", "error 2");
        works("=1--B1", "error 2");
        works("=-B1*-A1", "error 2");
    }

    private static void namesOfEmptyCells() {
        check.says("A name stands for the value of its cell, 0 if that is empty");
        works("=G1", 0);
        works("=-G1", 0);
        works("=(G1)", 0);
        works("=G1+1", 1);
        works("=1-G1", 1);
        works("=G1*5", 0);
        works("=G1=0", 1);
        works("=IF(G1,2,3)", 3);
        works("=IF(1,G1,3)", 0);
        works("=SUM(G1)", 0);
        works("=SUM(G1,G1+1)", 1);
        works("=MIN(G1,1)", 0);
        works("=MAX(G1,-1)", 0);
        works("=C1", LEAST);
        works("=D1", GREATEST);
        works("=A1", "error 1");
        works("=B1", "error 2");
        Sheet sheet = new Sheet().with("A1", "=B1");
        check.due("a cell with the name of an empty one has a number", sheet.kind(0), 1);
        check.due("the empty one stays empty", sheet.kind(1), 0);
        sheet.with("B1", "5");
        sheet.clear("B1");
        check.due("empty again", sheet.shows("A1"), "0");
    }

    private static void ifItsFirstIsAnError() {
        check.says("IF: if its first is an error, that");
        works("=IF(A1,2,3)", "error 1");
        works("=IF(B1,2,3)", "error 2");
        works("=IF(A1,B1,B1)", "error 1");
        works("=IF(B1,A1,A1)", "error 2");
        works("=IF(B1,1/0,1%0)", "error 2");
        works("=IF(1/0,B1,3)", "error 1");
        works("=IF(-B1,2,3)", "error 2");
        works("=IF(A1=A1,2,3)", "error 1");
        works("=IF(IF(B1,1,1),A1,A1)", "error 2");
    }

    private static void ifNotZero() {
        check.says("if it is not 0, the second, otherwise the third");
        for (String test : new String[] {"1", "-1", "2", "C1", "D1", "E1", "-E1", "E1*65536", "1=1", "(1)", "COUNT(1)",
                "--1", "999999999"}) {
            works("=IF(" + test + ",2,3)", 2);
            works("=IF(" + test + ",B1,3)", "error 2");
        }
        for (String test : new String[] {"0", "-0", "000", "G1", "F1", "1-1", "1=2", "C1+C1", "E1*E1", "SUM(G1:H2)",
                "1/2", "2%2"}) {
            works("=IF(" + test + ",2,3)", 3);
            works("=IF(" + test + ",2,B1)", "error 2");
        }
        works("=IF(1,C1,3)", LEAST);
        works("=IF(0,2,D1)", GREATEST);
        works("=IF(1,0,3)", 0);
        works("=IF(0,2,0)", 0);
    }

    private static void theOtherOneIsNotWorkedOut() {
        check.says("(the other one is not worked out)");
        works("=IF(1,2,A1)", 2);
        works("=IF(1,2,B1)", 2);
        works("=IF(0,A1,3)", 3);
        works("=IF(0,B1,3)", 3);
        works("=IF(1,2,1/0)", 2);
        works("=IF(0,1/0,3)", 3);
        works("=IF(1,2,MIN(G1:H1))", 2);
        works("=IF(1,2,1/0)+1", 3);
        works("=1+IF(0,1%0,3)", 4);
        works("=-IF(1,2,A1)", -2);
        works("=SUM(1,IF(1,2,A1),4)", 7);
        works("=SUM(1,IF(0,SUM(9,A1),2),4)", 7);
        works("=IF(IF(1,0,A1),A1,IF(0,B1,5))", 5);
        works("=IF(F1,9/F1,7)", 7);
        works("=IF(F1=0,7,9/F1)", 7);
    }

    private static void leftToRight() {
        check.says("SUM, MIN, MAX, COUNT go over their arguments from left to right");
        for (String function : FUNCTIONS) {
            works("=" + function + "(A1,B1)", "error 1");
            works("=" + function + "(B1,A1)", "error 2");
            works("=" + function + "(1,B1,A1)", "error 2");
            works("=" + function + "(1,A1,B1)", "error 1");
            works("=" + function + "(B1:B1,A1:A1)", "error 2");
            works("=" + function + "(A1:A1,B1)", "error 1");
            works("=" + function + "(C1:E1,B1,A1)", "error 2");
            works("=" + function + "(G1:H7,A1,B1)", "error 1");
            works("=" + function + "(G1:H2,B1,A1)", "error 2");
            works("=" + function + "(B1,1/0)", "error 2");
            works("=" + function + "(1/0,B1)", "error 1");
        }
    }

    private static void rowByRow() {
        check.says("with NAME : NAME over the cells' values row by row, in a row column by column");
        for (String function : FUNCTIONS) {
            // In B2:D4 error 2 stands first by rows in one sheet, and error 1 in the other.
            Sheet one = new Sheet().with("D2", "=MIN(H8:H8)").with("B3", "=1/0");
            Sheet other = new Sheet().with("D2", "=1/0").with("B3", "=MIN(H8:H8)");
            Sheet row = new Sheet().with("C3", "=MIN(H8:H8)").with("D3", "=1/0").with("B4", "=1/0");
            for (String corners : new String[] {"B2:D4", "D4:B2", "B4:D2", "D2:B4"}) {
                String text = "=" + function + "(" + corners + ")";
                check.due("a later column of an earlier row, " + text, one.with("G8", text).shows("G8"), "error 2");
                check.due("a later column of an earlier row again, " + text, other.with("G8", text).shows("G8"),
                        "error 1");
                check.due("the earlier column of a row, " + text, row.with("G8", text).shows("G8"), "error 2");
            }
        }
        works("=SUM(A1:B1)", "error 1");
        works("=SUM(B1:A1)", "error 1");
        works("=SUM(B1:C1)", "error 2");
    }

    private static void emptyOnesAreLeftOut() {
        check.says("leaving out empty ones");
        works("=COUNT(G1:H1)", 0);
        works("=COUNT(F1:H1)", 1);
        works("=COUNT(C1:H1)", 4);
        works("=SUM(G1:H1)", 0);
        works("=MIN(E1:H1)", 0);
        works("=MIN(G1:H1,7)", 7);
        works("=MAX(G1:H1,-7)", -7);
        works("=MIN(D1:E1,G1:H1)", 1L << 32);
        works("=COUNT(G1:G1)", 0);
        works("=COUNT(A2:H7)", 0);
        Sheet sheet = new Sheet().with("A1", "5").with("C1", "-5").with("H8", "=MAX(B1:C1)");
        check.due("the greatest beside an empty one", sheet.shows("H8"), "-5");
        sheet.with("H8", "=MIN(A1:B1)");
        check.due("the least beside an empty one", sheet.shows("H8"), "5");
        sheet.with("B1", "=D1");
        check.due("a cell with the name of an empty one is not empty", sheet.shows("H8"), "0");
        sheet.clear("B1");
        check.due("empty again", sheet.shows("H8"), "5");
    }

    private static void theFirstError() {
        check.says("the first error that they meet");
        for (String function : FUNCTIONS) {
            String open = "=" + function + "(";
            works(open + "A1)", "error 1");
            works(open + "B1)", "error 2");
            works(open + "A1:A1)", "error 1");
            works(open + "B1:B1)", "error 2");
            works(open + "1,2,B1)", "error 2");
            works(open + "B1,1,2)", "error 2");
            works(open + "1,B1:F1,2)", "error 2");
            works(open + "A1:F1)", "error 1");
            works(open + "G1:H1,B1)", "error 2");
            works(open + "G1:H1,A1)", "error 1");
            works(open + "A1,G1:H1)", "error 1");
            works(open + "B1,A1,B1,A1)", "error 2");
        }
    }

    private static void leastAndGreatest() {
        check.says("the sum, the least, the greatest");
        works("=SUM(0)", 0);
        works("=SUM(-7)", -7);
        works("=MIN(7)", 7);
        works("=MAX(-7)", -7);
        works("=MIN(1,2,3)", 1);
        works("=MIN(3,2,1)", 1);
        works("=MIN(2,1,3)", 1);
        works("=MAX(1,2,3)", 3);
        works("=MAX(3,2,1)", 3);
        works("=MAX(1,3,2)", 3);
        works("=MIN(5,5)", 5);
        works("=MAX(-5,-5)", -5);
        works("=MIN(-1,-2)", -2);
        works("=MAX(-2,-1)", -1);
        works("=MIN(C1:F1)", LEAST);
        works("=MAX(C1:F1)", GREATEST);
        works("=MIN(D1)", GREATEST);
        works("=MAX(C1)", LEAST);
        works("=MIN(D1,D1)", GREATEST);
        works("=MAX(C1,C1)", LEAST);
        works("=MIN(0,C1)", LEAST);
        works("=MAX(0,D1)", GREATEST);
        works("=MIN(E1,1)", 1);
        works("=MAX(E1,1)", 1L << 32);
        works("=MAX(-E1,-1)", -1);
        works("=MIN(-E1,-1)", -(1L << 32));
    }

    private static void numberOfTheNumbers() {
        check.says("or the number of the numbers met");
        works("=COUNT(0)", 1);
        works("=COUNT(G1)", 1);
        works("=COUNT(0,0,0)", 3);
        works("=COUNT(5,-5)", 2);
        works("=COUNT(C1:D1,C1:D1)", 4);
        works("=COUNT(C1:H1,A2:H7)", 4);
        Sheet sheet = new Sheet();
        for (int cell = 0; cell < 63; cell++) {
            sheet.with(Sheet.name(cell), String.valueOf(cell));
        }
        sheet.with("H8", "=COUNT(A1:H7,A8:G8)");
        check.due("all others", sheet.shows("H8"), "63");
        sheet.with("H8", "=SUM(A1:H7,A8:G8)");
        check.due("the sum of all others", sheet.shows("H8"), "1953");
        sheet.with("H8", "=MAX(A1:H7,A8:G8)");
        check.due("the greatest of all others", sheet.shows("H8"), "62");
        sheet.with("H8", "=MIN(G8:A8,H7:A1)");
        check.due("the least of all others", sheet.shows("H8"), "0");
    }

    private static void minAndMaxOfNoNumber() {
        check.says("MIN and MAX of no number are error 2");
        for (String range : new String[] {"G1:G1", "G1:H1", "A2:H7", "H8:H8", "G1:H1,A2:H7", "H8:H8,G1:G1,H1:H1"}) {
            works("=MIN(" + range + ")", "error 2");
            works("=MAX(" + range + ")", "error 2");
            works("=SUM(" + range + ")", 0);
            works("=COUNT(" + range + ")", 0);
        }
        works("=MIN(F1:H1)", 0);
        works("=MAX(F1:H1)", 0);
        works("=MIN(G1)", 0);
        works("=MAX(G1)", 0);
        works("=MIN(G1:H1,G1)", 0);
        works("=MAX(0,G1:H1)", 0);
        works("=MIN(G1:H1)+A1", "error 2");
        works("=A1+MIN(G1:H1)", "error 1");
        works("=MAX(G1:H1)/0", "error 2");
        works("=SUM(MIN(G1:H1))", "error 2");
        works("=MIN(G1:H1,MAX(G1:H1),A1)", "error 2");
        works("=MIN(G1:H1,1/0)", "error 1");
        Sheet sheet = new Sheet().with("A1", "=MAX(B1:B1)").with("B1", "-3");
        check.due("a number comes", sheet.shows("A1"), "-3");
        sheet.clear("B1");
        check.due("the number goes", sheet.shows("A1"), "error 2");
    }

    private static void functionsInsideFunctions() {
        check.says("go over their arguments from left to right");
        works("=SUM(1,SUM(2,3),4)", 10);
        works("=SUM(SUM(1,2),SUM(3,4))", 10);
        works("=MAX(MIN(5,4),MIN(3,2))", 4);
        works("=MIN(MAX(1,2),MAX(3,4),9)", 2);
        works("=COUNT(COUNT(1,2,3),COUNT(1,2))", 2);
        works("=SUM(1,(SUM(2,(SUM(3,4)),5)),6)", 21);
        works("=MAX(1,IF(SUM(0,0),9,MIN(7,8)),2)", 7);
        works("=COUNT(1,MAX(G1:H1),1)", "error 2");
        works("=SUM(1,2)+SUM(3)*SUM(4,5)", 30);
    }
}
