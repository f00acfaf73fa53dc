/** What is worked out in a RUN: results that are too large, divisors, powers, FNs and elements. */
public final class Boundary3ExpressionTest {
    private static final String ARITHMETIC = "ArithmeticException";
    private static final String BOUNDS = "IndexOutOfBoundsException";
    private static final String MISSING = "NoSuchElementException";
    private static final String STATE = "IllegalStateException";
    private static final double LARGEST = 1152921504606846976.0;

    private static void results(Check check) {
        String title = "a result above 2^60 or below -2^60";
        // The doubles next to 2^60 are 128 below it and 256 above it.
        check.value(title, "8^20", "" + LARGEST);
        check.value(title, "8^20-128", "" + (LARGEST - 128));
        check.value(title, "8^20-128+128", "" + LARGEST);
        check.value(title, "8^20+128", "" + LARGEST);
        check.value(title, "8^20+256", ARITHMETIC);
        check.value(title, "8^20+256-256", ARITHMETIC);
        check.value(title, "-8^20+128", "" + (128 - LARGEST));
        check.value(title, "-8^20-128", "" + -LARGEST);
        check.value(title, "-8^20-256", ARITHMETIC);
        check.value(title, "-8^20-256+256", ARITHMETIC);
        check.value(title, "8^20-(-128)", "" + LARGEST);
        check.value(title, "8^20-(-256)", ARITHMETIC);
        check.value(title, "-8^20+(-256)", ARITHMETIC);
        check.value(title, "8^20*1", "" + LARGEST);
        check.value(title, "8^20*1.001", ARITHMETIC);
        check.value(title, "8^20*(-1)", "" + -LARGEST);
        check.value(title, "8^20*(-1.001)", ARITHMETIC);
        check.value(title, "8^20*8^20", ARITHMETIC);
        check.value(title, "8^20*8^20*0", ARITHMETIC);
        check.value(title, "8^20/1", "" + LARGEST);
        check.value(title, "8^20/0.999", ARITHMETIC);
        check.value(title, "8^20/(-1)", "" + -LARGEST);
        check.value(title, "8^20/(-0.999)", ARITHMETIC);
        check.value(title, "8^20/8^20", "1");
        check.value(title, "8.001^20", ARITHMETIC);
        check.value(title, "(-2^20)^3", "" + -LARGEST);
        check.value(title, "(-2^20-1)^3", ARITHMETIC);
        check.value(title, "(-8)^20", "" + LARGEST);
        check.value(title, "(-8.001)^20", ARITHMETIC);
        check.value(title, "-(8^20)", "" + -LARGEST);
        check.value(title, "-(-8^20)", "" + LARGEST);
        check.value(title, "ABS(-8^20)", "" + LARGEST);
        check.value(title, "INT(8^20)", "" + LARGEST);
        check.value(title, "INT(-8^20)", "" + -LARGEST);
        check.value(title, "SGN(8^20)+SGN(-8^20)*10", "-9");
    }

    private static void tooLargeLeavesAll(Check check) {
        String title = "a STEP whose e throws does nothing else";
        check.program(title, "10LETA=5\n20LETA=8^20+256", ARITHMETIC, "variable 0 -> 5", "at -> 20", "count 2 -> 2", "count 7 -> 1");
        check.program(title, "10PRINT5\n20PRINT1/0", ARITHMETIC, "count 3 -> 1", "printed 0 -> 5", "printed 1 -> " + MISSING);
        check.program(title, "10DIMP(1,1)\n20LETP(1,1)=5\n30LETP(1,1)=9^20", ARITHMETIC, "element 0 1 1 -> 5");
        check.program(title, "10LETI=5\n20FORI=1/0TO2\n30NEXTI", ARITHMETIC, "variable 8 -> 5", "count 4 -> 0", "at -> 20");
        check.program(title, "10LETI=5\n20FORI=1TO1/0\n30NEXTI", ARITHMETIC, "variable 8 -> 5", "count 4 -> 0");
        check.program(title, "10LETI=5\n20FORI=1TO2STEP1/0\n30NEXTI", ARITHMETIC, "variable 8 -> 5", "count 4 -> 0");
        check.program(title + ": an old loop of the same VARIABLE stays", "10FORI=1TO2\n20FORJ=1TO2\n30FORI=1TO1/0", ARITHMETIC, "count 4 -> 2", "variable 8 -> 1");
        check.program(title, "10IF1/0=1THEN20\n20PRINT1", ARITHMETIC, "at -> 10", "count 3 -> 0");
        check.program(title, "10IF1=1/0THEN20\n20PRINT1", ARITHMETIC, "at -> 10", "count 3 -> 0");
        check.program(title, "10ON1/0GOTO20\n20PRINT1", ARITHMETIC, "at -> 10", "count 3 -> 0");
    }

    private static void divisors(Check check) {
        String title = "a division by 0";
        for (String zero : new String[] {"0", "0.000", "(1-1)", "(-0)", "A", "(0*(-1))", "INT(0.999)", "SGN(0)", "ABS(0)", "(0.3-0.3)"}) {
            check.value(title, "1/" + zero, ARITHMETIC);
            check.value(title, "-1/" + zero, ARITHMETIC);
            check.value(title, "0/" + zero, ARITHMETIC);
        }
        check.value(title, "1/0.001", "1000");
        check.value(title, "1/(-0.001)", "-1000");
        check.value(title, "0/0.001", "0");
        check.value(title, "0/5", "0");
        check.value(title, "1/INT(1.001)", "1");
        check.value(title, "1/SGN(0.001)", "1");
        check.value(title, "1/SGN(-0.001)", "-1");
    }

    private static void wholePowers(Check check) {
        String title = "y must be a whole number -20 .. 20";
        for (int y = -23; y <= 23; y++) {
            boolean isPower = y >= -20 && y <= 20;
            check.value(title, "1^(" + y + ")", isPower ? "1" : ARITHMETIC);
            check.value(title, "(-1)^(" + y + ")", isPower ? y % 2 == 0 ? "1" : "-1" : ARITHMETIC);
            check.value(title, "2^(" + y + ")", isPower ? "" + (y < 0 ? 1.0 / (1 << -y) : 1 << y) : ARITHMETIC);
            check.value(title, "0^(" + y + ")", y >= 0 && isPower ? y == 0 ? "1" : "0" : ARITHMETIC);
        }
        for (String y : new String[] {"0.001", "0.5", "0.999", "1.001", "19.999", "20.001", "20.999", "8^20", "999999"}) {
            check.value(title, "1^" + y, y.equals("8^20") ? "1" : ARITHMETIC);
            check.value(title, "1^(" + y + ")", ARITHMETIC);
            check.value(title, "1^(-" + y + ")", ARITHMETIC);
            check.value(title, "0^(" + y + ")", ARITHMETIC);
        }
        check.value(title, "2^(0.5+0.5)", "2");
        check.value(title, "2^(-0)", "1");
        check.value(title, "2^(1+1)^(1+1)", "16");
    }

    private static double product(double x, int times) {
        double product = 1;
        for (int k = 0; k < times; k++) {
            product *= x;
        }
        return product;
    }

    private static void products(Check check) {
        String title = "1 multiplied by x so many times, each a result";
        check.value(title, "7^20", "" + product(7, 20));
        check.value(title, "9^18", "" + product(9, 18));
        check.value(title, "9^19", ARITHMETIC);
        check.value(title, "(-9)^18", "" + product(-9, 18));
        check.value(title, "(-9)^19", ARITHMETIC);
        check.value(title, "(-9)^20", ARITHMETIC);
        check.value(title, "(8^20)^1", "" + LARGEST);
        check.value(title, "(8^20)^2", ARITHMETIC);
        check.value(title, "(8^20)^0", "1");
        check.value(title, "0.1^3", "" + product(0.1, 3));
        check.value(title, "1.1^5", "" + product(1.1, 5));
        title = "for y below 0, 1 divided by what x ^ -y is";
        check.value(title, "8^(-20)", "" + 1 / LARGEST);
        check.value(title, "8.001^(-20)", ARITHMETIC);
        check.value(title, "9^(-18)", "" + 1 / product(9, 18));
        check.value(title, "9^(-19)", ARITHMETIC);
        check.value(title, "0.125^(-20)", "" + LARGEST);
        check.value(title, "0.124^(-20)", ARITHMETIC);
        check.value(title, "(-0.5)^(-19)", "-524288");
        check.value(title, "(-0.125)^(-19)", "" + -LARGEST / 8);
        check.value(title, "(-0.1)^(-19)", ARITHMETIC);
        check.value(title, "(8^20)^(-1)", "" + 1 / LARGEST);
        check.value(title, "(8^20)^(-2)", ARITHMETIC);
        check.value(title, "0.1^(-3)", "" + 1 / product(0.1, 3));
        check.value(title, "(0.001^20)^20", "0");
        check.value(title, "(0.001^20)^(-20)", ARITHMETIC);
    }

    private static void wholes(Check check) {
        String title = "INT the greatest whole number that is not greater";
        String[] of = {"0", "0.001", "0.999", "1", "1.001", "-0.001", "-0.999", "-1", "-1.001", "-1.999", "-2", "999999.999",
            "-999999.999", "8^19+0.5"};
        String[] due = {"0", "0", "0", "1", "1", "-1", "-1", "-1", "-2", "-2", "-2", "999999", "-1000000", "" + LARGEST / 8};
        for (int k = 0; k < of.length; k++) {
            check.value(title, "INT(" + of[k] + ")", due[k]);
        }
        for (String x : new String[] {"0.001", "1", "5.5", "999999.999"}) {
            check.value("SGN -1, 0 or 1", "SGN(" + x + ")", "1");
            check.value("SGN -1, 0 or 1", "SGN(-" + x + ")", "-1");
            check.value("ABS the size", "ABS(" + x + ")", x);
            check.value("ABS the size", "ABS(-" + x + ")", x);
        }
        check.value("SGN -1, 0 or 1", "SGN(0)", "0");
        check.value("SGN -1, 0 or 1", "SGN(-0)", "0");
        check.value("ABS the size", "ABS(0)", "0");
        check.value("SGN -1, 0 or 1", "SGN(8^(-20))", "1");
        check.value("SGN -1, 0 or 1", "SGN(-8^(-20))", "-1");
    }

    private static void undefined(Check check) {
        String title = "FN: NoSuchElementException if it is not defined";
        for (String f : new String[] {"A", "B", "C"}) {
            check.program(title, "10PRINTFN" + f + "(1)", MISSING, "at -> 10", "count 3 -> 0", "count 7 -> 1");
            check.program(title, "10GOTO30\n20DEFFN" + f + "(X)=1\n30PRINTFN" + f + "(1)", MISSING, "at -> 30");
            check.program(title, "10DEFFN" + f + "(X)=X+1\n20PRINTFN" + f + "(1)", "2", "printed 0 -> 2");
            check.program(title + ", tested before its argument is worked out", "10PRINTFN" + f + "(1/0)", MISSING);
            check.program(title + ", tested before its argument is worked out", "10PRINTFN" + f + "(P(1,1))", MISSING);
            check.program("and if it is, the argument throws", "10DEFFN" + f + "(X)=1\n20PRINTFN" + f + "(1/0)", ARITHMETIC);
            check.program("and if it is, the argument throws", "10DEFFN" + f + "(X)=1\n20PRINTFN" + f + "(P(1,1))", BOUNDS);
            for (String other : new String[] {"A", "B", "C"}) {
                if (!other.equals(f)) {
                    check.program(title + ", though another is", "10DEFFN" + other + "(X)=1\n20PRINTFN" + f + "(1/0)", MISSING);
                    check.program(title + ", in its argument", "10DEFFN" + other + "(X)=1\n20PRINTFN" + other + "(FN" + f + "(1/0))", MISSING);
                    check.program(title + ", in its e", "10DEFFN" + other + "(X)=FN" + f + "(1/0)\n20PRINTFN" + other + "(1)", MISSING);
                }
            }
        }
        check.program("but what throws before it is first", "10PRINT1/0+FNA(1)", ARITHMETIC);
        check.program("but what throws before it is first", "10PRINTFNA(1)+1/0", MISSING);
        check.program("a RUN begins with no FNs", "10DEFFNA(X)=1\n20PRINTFNA(1)", "2", "> 10REM -> 2", "run -> " + MISSING,
                "> 10DEFFNA(X)=3 -> 2", "run -> 2", "printed 0 -> 3");
    }

    private static void manyUnderWay(Check check) {
        String title = "a 4th FN would be under way in others";
        String three = "10DEFFNA(X)=FNB(X+1)\n20DEFFNB(Y)=FNC(Y+1)\n";
        check.program("a 3rd FN is under way", three + "30DEFFNC(Z)=Z*2\n40PRINTFNA(1)", "4", "printed 0 -> 6");
        check.program(title, three + "30DEFFNC(Z)=FNA(Z)\n35LETX=7\n36LETY=8\n37LETZ=9\n40PRINTFNA(1)", STATE, "variable 23 -> 7",
                "variable 24 -> 8", "variable 25 -> 9", "count 3 -> 0", "at -> 40");
        check.program(title, three + "30DEFFNC(Z)=FNC(Z)\n40PRINTFNA(1)", STATE);
        check.program("two under way, and a third", three + "30DEFFNC(Z)=FNC(Z)\n40DEFFNC(Z)=Z\n50PRINTFNB(1)+FNA(1)", "5", "printed 0 -> 5");
        check.program("a 4th from the second on", "10DEFFNB(Y)=FNC(Y)\n20DEFFNC(Z)=FNB(Z)\n30PRINTFNB(1)", STATE);
        check.program("one after the other is not in others", "10DEFFNA(X)=X+1\n20PRINTFNA(1)+FNA(2)+FNA(3)+FNA(4)+FNA(5)", "2", "printed 0 -> 20");
        check.program("an argument is worked out before its FN is under way", "10DEFFNA(X)=X+1\n20PRINTFNA(FNA(FNA(FNA(FNA(FNA(1))))))", "2", "printed 0 -> 7");
        check.program("also in the third", three + "30DEFFNC(Z)=Z*2\n40PRINTFNA(FNA(FNA(FNA(1))))", "4", "printed 0 -> 76");
        check.program("tested after its argument", three + "30DEFFNC(Z)=FNA(1/0)\n40PRINTFNA(1)", ARITHMETIC);
        check.program("tested after its argument", three + "30DEFFNC(Z)=FNA(P(1,1))\n40PRINTFNA(1)", BOUNDS);
        check.program("tested after its argument", "10DEFFNA(X)=FNB(X)\n20DEFFNB(X)=FNB(FNC(X))\n40PRINTFNA(1)", MISSING);
        check.program("but before its e", "10DEFFNA(X)=1/(4-X)+FNA(X+1)\n20PRINTFNA(1)", STATE);
    }

    private static final String CHAIN = "1DEFFNA(X)=FNB(X)\n2DEFFNB(X)=FNC(X)\n3DEFFNC(X)=X\n4DEFFNC(X)=%\n5DIMP(2,2)\n";

    /** A line may have three FNs under way, and no 4th, wherever its e stands. */
    private static void chain(Check check, String line, int steps) {
        String title = "three FNs under way, and not a 4th: " + line;
        check.program(title, CHAIN.replace("%", "X") + line, "" + steps, "count 7 -> 0");
        check.program(title, CHAIN.replace("%", "FNC(X)") + line, STATE, "variable 23 -> 0");
        // The e of a 4th, with 10 more as its argument, would divide by 0.
        check.program(title, CHAIN.replace("%", "1/(X-11)/(X-12)+FNC(X+10)") + line, STATE, "variable 23 -> 0");
    }

    private static void underWayAnywhere(Check check) {
        chain(check, "6LETZ=FNA(1)", 6);
        chain(check, "6LETP(FNA(1),1)=1", 6);
        chain(check, "6LETP(1,FNA(2))=1", 6);
        chain(check, "6LETP(1,2)=FNA(2)", 6);
        chain(check, "6READP(FNA(1),1)\n7DATA5", 7);
        chain(check, "6READP(1,FNA(1))\n7DATA5", 7);
        chain(check, "6PRINTFNA(1)", 6);
        chain(check, "6PRINTP(FNA(1),FNA(2))", 6);
        chain(check, "6PRINT1+2*3^FNA(1)", 6);
        chain(check, "6PRINTFNA(FNA(FNA(1)))", 6);
        chain(check, "6PRINTABS(INT(SGN(FNA(1))))", 6);
        chain(check, "6IFFNA(1)=2THEN1", 6);
        chain(check, "6IF2=FNA(1)THEN1", 6);
        chain(check, "6ONFNA(1)GOTO7\n7END", 7);
        chain(check, "6FORI=FNA(1)TO2", 6);
        chain(check, "6FORI=1TOFNA(1)", 6);
        chain(check, "6FORI=1TO2STEPFNA(1)", 6);
        chain(check, "6MATP=(FNA(1))*P", 6);
    }

    private static void arguments(Check check) {
        String title = "then s is as before (also if its e throws)";
        check.program(title, "10LETX=5\n20DEFFNA(X)=X*X\n30PRINTFNA(3)\n40PRINTX", "4", "printed 0 -> 9", "printed 1 -> 5", "variable 23 -> 5");
        check.program(title, "10LETX=5\n20DEFFNA(X)=1/X\n30PRINTFNA(0)", ARITHMETIC, "variable 23 -> 5");
        check.program(title, "10LETX=5\n20DEFFNA(X)=P(X,1)\n30PRINTFNA(1)", BOUNDS, "variable 23 -> 5");
        check.program(title, "10LETX=5\n20DEFFNA(X)=FNB(X)\n30PRINTFNA(1)", MISSING, "variable 23 -> 5");
        check.program(title, "10LETX=5\n20DEFFNA(X)=FNA(X+1)\n30PRINTFNA(1)", STATE, "variable 23 -> 5");
        check.program(title, "10LETX=5\n20DEFFNA(X)=X^X\n30PRINTFNA(21)", ARITHMETIC, "variable 23 -> 5");
        check.program("an argument that throws leaves s", "10LETX=5\n20DEFFNA(X)=X\n30PRINTFNA(1/0)", ARITHMETIC, "variable 23 -> 5");
        check.program("an argument is worked out with s as before", "10LETX=5\n20DEFFNA(X)=X+1\n30PRINTFNA(X*2)+X", "3", "printed 0 -> 16");
    }

    private static void elements(Check check) {
        int[][] sizes = {{1, 1}, {2, 3}, {6, 6}, {1, 6}, {6, 1}, {3, 2}};
        for (int[] size : sizes) {
            for (int i = -1; i <= 7; i++) {
                for (int j = -1; j <= 7; j++) {
                    boolean isThere = i >= 1 && i <= size[0] && j >= 1 && j <= size[1];
                    element(check, size, "" + i, "" + j, isThere);
                }
            }
        }
        String[] cuts = {"-1.001", "-0.999", "0.001", "0.999", "1.999", "2.999", "3", "3.001", "8^20", "-8^20", "2^20*4096+1"};
        boolean[] areThere = {false, false, false, false, true, true, false, false, false, false, false};
        for (int k = 0; k < cuts.length; k++) {
            element(check, new int[] {2, 2}, cuts[k], "1.999", areThere[k]);
            element(check, new int[] {2, 2}, "2.999", cuts[k], areThere[k]);
        }
    }

    private static void element(Check check, int[] size, String i, String j, boolean isThere) {
        String title = "IndexOutOfBoundsException if there is no such element";
        String m = "R(" + i + "," + j + ")";
        String dim = "10DIMR(" + size[0] + "," + size[1] + ")\n";
        check.program(title, dim + "20PRINT" + m, isThere ? "2" : BOUNDS, "count 3 -> " + (isThere ? 1 : 0));
        check.program(title, dim + "20LET" + m + "=7\n30PRINT" + m, isThere ? "3" : BOUNDS, isThere ? "printed 0 -> 7" : "at -> 20");
        check.program(title, dim + "20READ" + m + "\n30PRINT" + m + "\n40DATA7", isThere ? "4" : BOUNDS,
                isThere ? "printed 0 -> 7" : "count 6 -> 1");
    }

    private static void noMatrix(Check check) {
        String title = "or no such MATRIX";
        for (String m : new String[] {"P", "Q", "R"}) {
            check.program(title, "10PRINT" + m + "(1,1)", BOUNDS, "at -> 10");
            check.program(title, "10LET" + m + "(1,1)=1", BOUNDS);
            check.program(title, "10READ" + m + "(1,1)\n20DATA1", BOUNDS, "count 6 -> 1");
            check.program(title, "10DIM" + m + "(1,1)\n20PRINT" + m + "(1,1)", "2", "printed 0 -> 0");
            for (String other : new String[] {"P", "Q", "R"}) {
                check.program(title, "10DIM" + other + "(2,2)\n20PRINT" + m + "(1,1)", other.equals(m) ? "2" : BOUNDS);
            }
            check.program("both are worked out first", "10PRINT" + m + "(1/0,1)", ARITHMETIC);
            check.program("both are worked out first", "10PRINT" + m + "(7,1/0)", ARITHMETIC);
            check.program("both are worked out first", "10PRINT" + m + "(FNA(1),1/0)", MISSING);
            check.program("both are worked out first", "10PRINT" + m + "(1/0,FNA(1))", ARITHMETIC);
        }
        check.program("a RUN begins with no MATRICES", "10DIMP(1,1)\n20PRINTP(1,1)", "2", "> 10REM -> 2", "run -> " + BOUNDS);
    }

    public static void main(String[] args) {
        Check check = new Check();
        results(check);
        tooLargeLeavesAll(check);
        divisors(check);
        wholePowers(check);
        products(check);
        wholes(check);
        undefined(check);
        manyUnderWay(check);
        underWayAnywhere(check);
        arguments(check);
        elements(check);
        noMatrix(check);
        check.finish();
    }
}
