/** DIM and MAT. */
public final class Promise06MatrixTest {
    private static final String UNSUPPORTED = "UnsupportedOperationException";
    // P is 1 2 3 / 4 5 6, Q is 1 2 / 3 4 / 5 6.
    private static final String TWO = "10 DIM P(2,3)\n11 FOR I=1 TO 2\n12 FOR J=1 TO 3\n13 LET P(I,J)=(I-1)*3+J\n14 NEXT J\n15 NEXT I\n"
            + "20 DIM Q(3,2)\n21 FOR I=1 TO 3\n22 FOR J=1 TO 2\n23 LET Q(I,J)=(I-1)*2+J\n24 NEXT J\n25 NEXT I\n";

    private static void filled(Check check) {
        check.program("DIM", "10 DIM P(2,3)", "1", "element 0 1 1 -> 0", "element 0 2 3 -> 0", "element 0 3 1 -> IndexOutOfBoundsException");
        check.program("DIM once more is all 0", "10 DIM P(1,1)\n20 LET P(1,1)=5\n30 DIM P(1,2)", "3", "element 0 1 1 -> 0", "element 0 1 2 -> 0");
        check.program("CON", "10 DIM P(2,3)\n20 MAT P=CON", "2", "element 0 1 1 -> 1", "element 0 2 3 -> 1", "element 0 2 2 -> 1",
                "element 0 3 3 -> IndexOutOfBoundsException");
        check.program("ZER", "10 DIM P(2,3)\n20 MAT P=CON\n30 MAT P=ZER", "3", "element 0 1 1 -> 0", "element 0 2 3 -> 0");
        check.program("IDN", "10 DIM R(3,3)\n20 MAT R=IDN", "2", "element 2 1 1 -> 1", "element 2 2 2 -> 1", "element 2 3 3 -> 1",
                "element 2 1 2 -> 0", "element 2 3 1 -> 0");
        check.program("IDN must be square", "10 DIM P(2,3)\n20 MAT P=CON\n30 MAT P=IDN", UNSUPPORTED, "element 0 1 2 -> 1");
        check.program("gone at the next RUN", "10 IF 1=1 THEN 20\n20 DIM P(1,1)\n30 DIM Q(2,2)\n40 DIM R(3,3)", "4", "element 2 3 3 -> 0",
                "> 20 END -> 4", "run -> 2", "element 0 1 1 -> IndexOutOfBoundsException",
                "element 1 1 1 -> IndexOutOfBoundsException", "element 2 1 1 -> IndexOutOfBoundsException");
        check.program("ZER of none", "10 MAT P=ZER", UNSUPPORTED);
        check.program("CON of none", "10 DIM Q(1,1)\n20 MAT P=CON", UNSUPPORTED, "at -> 20");
        check.program("IDN of none", "10 MAT P=IDN", UNSUPPORTED);
    }

    private static void made(Check check) {
        check.program("a copy", TWO + "30 MAT R=P\n40 LET P(1,1)=9\n50 MAT P=P", "41", "element 2 2 3 -> 6", "element 2 1 1 -> 1", "element 0 1 1 -> 9",
                "element 2 3 1 -> IndexOutOfBoundsException");
        check.program("a copy takes the size", TWO + "30 MAT P=Q", "39",
                "element 0 3 2 -> 6", "element 0 1 3 -> IndexOutOfBoundsException");
        check.program("a copy of none", "10 DIM P(1,1)\n20 MAT P=Q", UNSUPPORTED, "element 0 1 1 -> 0");
        check.program("TRN", TWO + "30 MAT R=TRN(P)", "39", "element 2 1 2 -> 4", "element 2 3 1 -> 3", "element 2 3 2 -> 6", "element 2 2 1 -> 2",
                "element 2 1 3 -> IndexOutOfBoundsException");
        check.program("TRN in place", TWO + "30 MAT P=TRN(P)", "39", "element 0 3 1 -> 3", "element 0 1 2 -> 4", "element 0 2 2 -> 5");
        check.program("TRN of none", "10 MAT P=TRN(P)", UNSUPPORTED);
        check.program("plus", TWO + "30 MAT R=TRN(Q)\n40 MAT P=P+R", "40", "element 0 1 1 -> 2", "element 0 1 2 -> 5", "element 0 2 3 -> 12");
        check.program("minus", TWO + "30 MAT R=TRN(Q)\n40 MAT Q=P-R", "40", "element 1 1 2 -> -1", "element 1 2 1 -> 2", "element 1 2 3 -> 0",
                "element 1 3 1 -> IndexOutOfBoundsException");
        check.program("plus of other sizes", TWO + "30 MAT R=P+Q", UNSUPPORTED, "element 2 1 1 -> IndexOutOfBoundsException");
        check.program("minus of other columns", "10 DIM P(2,2)\n20 DIM Q(2,3)\n30 MAT R=P-Q", UNSUPPORTED);
        check.program("minus of other rows", "10 DIM P(2,2)\n20 DIM Q(3,2)\n30 MAT R=P-Q", UNSUPPORTED);
        check.program("plus of none behind", "10 DIM P(1,1)\n20 MAT P=P+Q", UNSUPPORTED);
        check.program("minus of none before", "10 DIM P(1,1)\n20 MAT P=Q-P", UNSUPPORTED);
        check.program("minus of none at all", "10 DIM P(1,1)\n20 MAT P=Q-R", UNSUPPORTED);
    }

    private static void times(Check check) {
        check.program("times", TWO + "30 MAT R=P*Q", "39", "element 2 1 1 -> 22", "element 2 1 2 -> 28", "element 2 2 1 -> 49", "element 2 2 2 -> 64",
                "element 2 1 3 -> IndexOutOfBoundsException", "element 2 3 1 -> IndexOutOfBoundsException");
        check.program("times the other way, in place", TWO + "30 MAT Q=Q*P", "39", "element 1 1 1 -> 9", "element 1 3 3 -> 51", "element 1 2 1 -> 19");
        check.program("times that does not fit", TWO + "30 MAT R=P*P", UNSUPPORTED);
        check.program("times of none before", "10 DIM P(1,1)\n20 MAT R=Q*P", UNSUPPORTED);
        check.program("times of none behind", "10 DIM P(1,1)\n20 MAT R=P*Q", UNSUPPORTED);
        check.program("times of none at all", "10 MAT R=P*Q", UNSUPPORTED);
        check.program("( e ) times", TWO + "30 MAT R=(-1/2)*P", "39", "element 2 1 1 -> -0.5", "element 2 2 3 -> -3", "element 0 1 1 -> 1");
        check.program("( e ) times none is tested first", "10 MAT R=(1/0)*P", UNSUPPORTED);
        check.program("( e ) may throw", "10 DIM P(1,1)\n20 MAT R=(1/0)*P", "ArithmeticException", "element 2 1 1 -> IndexOutOfBoundsException");
        check.program("( e ) is worked out before the first changes", TWO + "30 MAT P=(P(1,2)+P(2,1))*P", "39", "element 0 1 1 -> 6", "element 0 2 3 -> 36");
        check.program("( e ) with no such element", "10 DIM P(1,1)\n20 MAT P=(R(1,1))*P", "IndexOutOfBoundsException");
    }

    private static void tooLarge(Check check) {
        String large = "10 DIM P(1,2)\n20 DIM Q(1,2)\n30 LET P(1,1)=1\n40 LET P(1,2)=8^20\n50 MAT Q=CON\n55 LET Q(1,2)=-8^20\n";
        check.program("plus too large", large + "60 MAT Q=P+P", "ArithmeticException", "element 1 1 1 -> 1", "element 1 1 2 -> " + -Math.pow(2, 60));
        check.program("minus too large", large + "60 MAT R=P-Q", "ArithmeticException", "element 2 1 1 -> IndexOutOfBoundsException");
        check.program("plus that is not", large + "60 MAT R=P+Q", "7", "element 2 1 1 -> 2", "element 2 1 2 -> 0");
        check.program("( e ) times too large", large + "60 MAT P=(2)*P", "ArithmeticException", "element 0 1 1 -> 1");
        check.program("( e ) times that is not", large + "60 MAT P=(-1)*P", "7", "element 0 1 2 -> " + -Math.pow(2, 60));
        check.program("a product too large", large + "60 MAT Q=TRN(Q)\n70 MAT R=P*Q", "ArithmeticException");
        check.program("a sum of products too large", large + "60 MAT Q=CON\n65 LET P(1,1)=8^20\n70 MAT Q=TRN(Q)\n80 MAT R=P*Q", "ArithmeticException");
        check.program("a sum on the way too large", "10 DIM P(1,3)\n20 LET P(1,1)=8^20\n30 LET P(1,2)=8^20\n40 LET P(1,3)=-8^20\n50 DIM Q(3,1)\n60 MAT Q=CON\n"
                + "70 MAT R=P*Q", "ArithmeticException");
        check.program("a sum from the first on", "10 DIM P(1,3)\n20 LET P(1,1)=8^20\n30 LET P(1,2)=-8^20\n40 LET P(1,3)=3\n50 DIM Q(3,1)\n60 MAT Q=CON\n"
                + "70 MAT R=P*Q", "7", "element 2 1 1 -> 3");
    }

    public static void main(String[] args) {
        Check check = new Check();
        filled(check);
        made(check);
        times(check);
        tooLarge(check);
        check.finish();
    }
}
