/** DEF FN and FN. */
public final class Promise06FunctionTest {
    /** As many operands that wait as 60 characters and 6 brackets let stand, and three FNs more with as many. */
    private static void waitingOperands(Check check) {
        String fiveWait = "2-1*2^(".repeat(5);
        String close = ")".repeat(5);
        check.program("operands wait in all that is under way",
                "1DEFFNA(X)=" + fiveWait + "FNB(X)" + close + "\n2DEFFNB(X)=" + fiveWait + "FNC(X)" + close
                        + "\n3DEFFNC(X)=" + fiveWait + "2-1*2^(X)" + close + "\n4PRINT9-" + fiveWait + "FNA(1)" + close + "\n5PRINT8-FNA(1)",
                "5", "printed 0 -> 5", "printed 1 -> 7");
    }

    public static void main(String[] args) {
        Check check = new Check();
        check.program("a FN", "10 DEF FN A(X)=X*X-1\n20 LET X=-3\n30 PRINT FN A(4)\n40 PRINT X\n50 PRINT FNA(X+1)+X", "5",
                "printed 0 -> 15", "printed 1 -> -3", "printed 2 -> 0", "variable 23 -> -3");
        check.program("others see the argument", "10 DEF FN A(X)=X*10+Y\n20 DEF FN B(Y)=FN A(Y+1)\n30 LET Y=7\n40 PRINT FN B(2)\n50 PRINT Y\n60 PRINT FNA(1)",
                "6", "printed 0 -> 32", "printed 1 -> 7", "printed 2 -> 17");
        check.program("not defined, before the argument", "10 PRINT FN A(1/0)", "NoSuchElementException");
        check.program("not defined yet", "10 PRINT FN A(1)\n20 DEF FN A(X)=X", "NoSuchElementException", "at -> 10");
        check.program("another is defined", "10 DEF FN A(X)=X\n20 PRINT FN B(1)", "NoSuchElementException", "at -> 20");
        check.program("not defined within another", "10 DEF FN A(X)=FN B(1/0)\n20 PRINT FN A(1)", "NoSuchElementException");
        check.program("defined once more", "10 DEF FN A(X)=X\n20 PRINT FN A(1)\n30 DEF FN A(Y)=Y+1\n40 PRINT FN A(1)", "4",
                "printed 0 -> 1", "printed 1 -> 2");
        check.program("defined by the STEP, not by the line", "10 GOTO 30\n20 DEF FN A(X)=X\n30 PRINT FN A(1)", "NoSuchElementException");
        check.program("gone at the next RUN", "10 DEF FN A(X)=X\n20 PRINT FN A(1)", "2", "> 10 -> 1", "run -> NoSuchElementException");
        check.program("s is as before when its e throws", "10 LET X=5\n20 DEF FN A(X)=1/(X-2)\n30 PRINT FN A(2)", "ArithmeticException",
                "variable 23 -> 5", "count 3 -> 0");
        check.program("s is as before in all that are under way", "10 LET X=5\n20 LET Y=6\n30 DEF FN A(X)=P(X,Y)\n40 DEF FN B(Y)=FN A(Y)\n50 PRINT FN B(2)",
                "IndexOutOfBoundsException", "variable 23 -> 5", "variable 24 -> 6");
        check.program("three under way", "10 DEF FN A(X)=FN B(X+1)\n20 DEF FN B(X)=FN C(X+1)\n30 DEF FN C(X)=X*2\n40 PRINT FN A(1)", "4",
                "printed 0 -> 6", "variable 23 -> 0");
        check.program("a 4th under way", "10 DEF FN A(X)=FN B(X+1)\n20 DEF FN B(X)=FN C(X+1)\n30 DEF FN C(X)=FN A(X)\n40 PRINT FN A(1)",
                "IllegalStateException", "variable 23 -> 0");
        check.program("the 3rd still throws its own", "10 DEF FN A(X)=1/(3-X)+FNA(X+1)\n20 PRINT FNA(1)", "ArithmeticException");
        check.program("the 4th does not begin", "10 DEF FN A(X)=1/(3-X)+FNA(X+1)\n20 PRINT FNA(0)", "IllegalStateException");
        check.program("a FN of itself", "10 DEF FN A(X)=FN A(X)\n20 PRINT FN A(1)", "IllegalStateException");
        check.program("a 4th is tested behind its argument", "10 DEF FN A(X)=FN B(X)\n20 DEF FN B(X)=FN C(X)\n30 DEF FN C(X)=FN A(1/0)\n40 PRINT FN A(1)",
                "ArithmeticException");
        check.program("arguments are under way in no other", "10 DEF FN A(X)=X+1\n20 PRINT FNA(FNA(FNA(FNA(FNA(1)))))", "2", "printed 0 -> 6");
        check.program("arguments within others", "10 DEF FN A(X)=X+1\n20 DEF FN B(X)=FNA(FNA(X))\n30 DEF FN C(X)=FNB(FNB(X))\n40 PRINT FNC(FNC(0))", "4",
                "printed 0 -> 8");
        check.program("a loop's VARIABLE as s", "10 DEF FN A(I)=I*2\n20 FOR I=1 TO FN A(1)\n30 PRINT FN A(I+1)\n40 NEXT I", "6",
                "printed 0 -> 4", "printed 1 -> 6", "variable 8 -> 3");
        check.program("in an element's place", "10 DEF FN A(X)=X+1\n20 DIM P(2,3)\n30 LET P(FNA(1),FNA(FNA(1)))=4", "3", "element 0 2 3 -> 4");
        waitingOperands(check);
        check.finish();
    }
}
