/** What expressions of a RUN come to, and what they throw. */
public final class Promise06ExpressionTest {
    private static final String ARITHMETIC = "ArithmeticException";

    private static void order(Check check) {
        check.value("1-2-3", "-4");
        check.value("8/4/2", "1");
        check.value("2^3^2", "64");
        check.value("1+2*3", "7");
        check.value("(1+2)*3", "9");
        check.value("2*3^2", "18");
        check.value("-2^2", "-4");
        check.value("-2*3+10", "4");
        check.value("-1-1", "-2");
        check.value("5-(-2)", "7");
        check.value("7/2*2", "7");
        check.value("100/10*10", "100");
        check.value("((((((1+1))))))", "2");
        check.value("A", "0");
        check.value("0.1+0.2", "" + (0.1 + 0.2));
    }

    private static void numerals(Check check) {
        check.value("999999.999", "999999.999");
        check.value("0.001", "0.001");
        check.value("123456.7", "123456.7");
        check.value("3.14", "3.14");
        check.value("1.05", "1.05");
        check.value("007", "7");
        check.value("000000", "0");
        check.value("8.29", "8.29");
        check.value("0.3", "0.3");
    }

    private static void functions(Check check) {
        check.value("ABS(-3)", "3");
        check.value("ABS(3.5)", "3.5");
        check.value("ABS(0)", "0");
        check.value("INT(2.999)", "2");
        check.value("INT(-2.001)", "-3");
        check.value("INT(-2)", "-2");
        check.value("INT(0.5)", "0");
        check.value("INT(-0.5)", "-1");
        check.value("INT(-8^20)", "" + -Math.pow(2, 60));
        check.value("INT(8^20-0.5)", "" + Math.pow(2, 60));
        check.value("SGN(-0.001)", "-1");
        check.value("SGN(0)", "0");
        check.value("SGN(12)", "1");
        check.value("ABS(INT(-1.5))*SGN(-4)", "-2");
    }

    private static void limits(Check check) {
        check.value("2^20*2^20*2^20", "" + Math.pow(2, 60));
        check.value("-(2^20*2^20*2^20)", "" + -Math.pow(2, 60));
        check.value("2^20*2^20*2^20*2", ARITHMETIC);
        check.value("2^20*2^20*2^20*(-2)", ARITHMETIC);
        check.value("2^20*2^20*2^20+512", ARITHMETIC);
        check.value("2^20*2^20*2^20+2", "" + Math.pow(2, 60));
        check.value("-(2^20*2^20*2^20)-512", ARITHMETIC);
        check.value("1/0", ARITHMETIC);
        check.value("0/0", ARITHMETIC);
        check.value("1/(1-1)", ARITHMETIC);
        check.value("2^20*2^20/0.001/0.001/0.001", ARITHMETIC);
        check.value("1/(0.001^20^16)", ARITHMETIC);
    }

    private static void powers(Check check) {
        check.value("0^0", "1");
        check.value("5^0", "1");
        check.value("(-2)^3", "-8");
        check.value("2^(-3)", "0.125");
        check.value("2^(-20)", "" + 1 / Math.pow(2, 20));
        check.value("8^20", "" + Math.pow(2, 60));
        check.value("9^20", ARITHMETIC);
        check.value("(-9)^19", ARITHMETIC);
        check.value("9^(-20)", ARITHMETIC);
        check.value("0^(-1)", ARITHMETIC);
        check.value("0.001^(-20)", ARITHMETIC);
        check.value("0.5^(-20)", "" + Math.pow(2, 20));
        check.value("2^21", ARITHMETIC);
        check.value("1^21", ARITHMETIC);
        check.value("1^(-21)", ARITHMETIC);
        check.value("1^0.5", ARITHMETIC);
        check.value("1^20.5", ARITHMETIC);
        check.value("1^20", "1");
        check.value("1.1^3", "" + 1.0 * 1.1 * 1.1 * 1.1);
        check.value("3^(-2)", "" + 1.0 / 9.0);
    }

    private static void elements(Check check) {
        check.value("P(1,1)", "IndexOutOfBoundsException");
        check.value("P(1/0,1)", ARITHMETIC);
        check.value("P(1,1/0)", ARITHMETIC);
        check.value("P(1,1)+1/0", "IndexOutOfBoundsException");
        check.value("1/0+P(1,1)", ARITHMETIC);
        check.value("FNA(1/0)", "NoSuchElementException");
        check.value("1/0+FNA(1)", ARITHMETIC);
        String lines = "10 DIM P(2,3)\n20 LET P(2,3)=5\n30 LET P(1,2)=2\n";
        check.program("cut to whole numbers", lines + "40 PRINT P(2.999,3.999)+P(1.5,P(1,2)+0.9)", "4", "printed 0 -> 7");
        check.program("the first element", lines + "40 LET P(1,1)=8\n50 PRINT P(1,1)", "5", "printed 0 -> 8");
        check.program("row 0", lines + "40 PRINT P(0.999,1)", "IndexOutOfBoundsException");
        check.program("row -0.5 is 0", lines + "40 PRINT P(-0.5,1)", "IndexOutOfBoundsException");
        check.program("row 3", lines + "40 PRINT P(3,1)", "IndexOutOfBoundsException");
        check.program("column 4", lines + "40 PRINT P(1,4)", "IndexOutOfBoundsException");
        check.program("column 0", lines + "40 PRINT P(1,0)", "IndexOutOfBoundsException");
        check.program("column -1", lines + "40 PRINT P(1,-1)", "IndexOutOfBoundsException");
        check.program("row 2^32 + 1", lines + "40 PRINT P(2^20*4096+1,1)", "IndexOutOfBoundsException");
        check.program("another MATRIX", lines + "40 PRINT Q(1,1)", "IndexOutOfBoundsException");
    }

    private static void waitingOperands(Check check) {
        check.value("9-3*2^(" + "2-1*2^(".repeat(5) + "1" + ")".repeat(6), "6");
        check.value("4+3-2*1^(".repeat(5) + "1" + ")".repeat(5), "5");
        check.program("the first index waits", "10DIMP(2,2)\n20LETP(1,2)=2\n30PRINT5-2*P(1,2-1*P(1,3-1*P(1,2-1*P(1,1))))", "3", "printed 0 -> 1");
    }

    /** Of what a STEP worked out nothing is left behind, for the 300th either. */
    private static void manyExpressions(Check check) {
        check.program("many elements", "10 DIM P(2,2)\n20 FOR I=1 TO 99\n30 LET P(1,1)=P(1,1)+I\n40 LET P(1+1,2)=P(1,1)-1\n50 NEXT I\n60 PRINT P(2,2)+P(1,1)*2",
                "300", "printed 0 -> 14849", "count 7 -> 0");
        check.program("many relations", "10 IF 1+2*A<0-1 THEN 99\n20 IF 2*A+1>1^20*A*2+1 THEN 99\n30 LET A=A+1\n40 IF A*2+1<>2*70+1 THEN 10\n50 PRINT A*2-1",
                "281", "printed 0 -> 139");
    }

    public static void main(String[] args) {
        Check check = new Check();
        order(check);
        numerals(check);
        functions(check);
        limits(check);
        powers(check);
        elements(check);
        waitingOperands(check);
        manyExpressions(check);
        check.finish();
    }
}
