public final class Promise04ErrorAtTest {
    private static void numbersAndKeywords(Check check) {
        check.wrongLine("", 0);
        check.wrongLine("   ", 0);
        check.wrongLine("A", 0);
        check.wrongLine("-1", 0);
        check.wrongLine("0", 1);
        check.wrongLine("00", 2);
        check.wrongLine("000", 2);
        check.wrongLine("00A", 2);
        check.wrongLine("0END", 1);
        check.wrongLine("1000END", 3);
        check.wrongLine("10 end", 2);
        check.wrongLine("10 X", 2);
        check.wrongLine("10 LEX", 4);
        check.wrongLine("10 REX", 4);
        check.wrongLine("10 RESX", 5);
        check.wrongLine("10 GOX", 4);
        check.wrongLine("10 DX", 3);
        check.wrongLine("10 P", 3);
        check.wrongLine("10 RESTOR", 8);
        check.wrongLine("10 RETURN X", 8);
        check.wrongLine("10 ENDX", 5);
        check.wrongLine("10 RESTORE1", 9);
        check.wrongLine("10\tEND", 2);
    }

    private static void statements(Check check) {
        check.wrongLine("10 LET", 5);
        check.wrongLine("10 LET P=1", 6);
        check.wrongLine("10 LET P(1=2", 8);
        check.wrongLine("10 LET AB=1", 6);
        check.wrongLine("10 LET A=1 B", 8);
        check.wrongLine("10 IF A THEN 1", 5);
        check.wrongLine("10 IF A=<B THEN 1", 6);
        check.wrongLine("10 IF A><B THEN 1", 6);
        check.wrongLine("10 IF A=B TO", 8);
        check.wrongLine("10 IF A=B THEN 0", 12);
        check.wrongLine("10 IF A=B THEN 1000", 14);
        check.wrongLine("10 GOTO", 6);
        check.wrongLine("10 GOTO A", 6);
        check.wrongLine("10 GOTO 000", 8);
        check.wrongLine("10 GOTO 1,2", 7);
        check.wrongLine("10 ON A GOTO 1,2,3,4,5", 16);
        check.wrongLine("10 ON A GOTO 1,", 11);
        check.wrongLine("10 ON A GOSUB 1", 7);
        check.wrongLine("10 FOR P=1 TO 2", 5);
        check.wrongLine("10 FOR A=1 STEP", 8);
        check.wrongLine("10 FOR A=1 TO 2 STEX", 14);
        check.wrongLine("10 FOR A=1 TO 2 STEP", 15);
        check.wrongLine("10 NEXT Q", 6);
        check.wrongLine("10 NEXT", 6);
        check.wrongLine("10 DATA", 6);
        check.wrongLine("10 DATA A", 6);
        check.wrongLine("10 DATA --1", 7);
        check.wrongLine("10 DATA .5", 6);
        check.wrongLine("10 DATA 1,2,3,4,5,6,7", 17);
        check.wrongLine("10 DIM A(1,1)", 5);
        check.wrongLine("10 DIM P(0,1)", 7);
        check.wrongLine("10 DIM P(1,7)", 9);
        check.wrongLine("10 DIM P(11,1)", 8);
        check.wrongLine("10 DEF X", 5);
        check.wrongLine("10 DEF FN D(X)=1", 7);
        check.wrongLine("10 DEF FN A(R)=1", 9);
        check.wrongLine("10 DEF FN A(X)", 11);
        check.wrongLine("10 MAT A=P", 5);
        check.wrongLine("10 MAT P=A", 7);
        check.wrongLine("10 MAT P=Q/R", 8);
        check.wrongLine("10 MAT P=Q+R+P", 10);
        check.wrongLine("10 MAT P=TRN P", 10);
        check.wrongLine("10 MAT P=(2)+Q", 10);
        check.wrongLine("10 MAT P=2*Q", 7);
        check.wrongLine("10 MAT P=ZEN", 9);
        check.wrongLine("10 MAT P=CONX", 10);
    }

    private static void expressions(Check check) {
        check.wrongLine("10 PRINT", 7);
        check.wrongLine("10 PRINT --A", 8);
        check.wrongLine("10 PRINT A*-B", 9);
        check.wrongLine("10 PRINT +A", 7);
        check.wrongLine("10 PRINT A^", 9);
        check.wrongLine("10 PRINT 1234567", 13);
        check.wrongLine("10 PRINT 1.", 9);
        check.wrongLine("10 PRINT 1.A", 9);
        check.wrongLine("10 PRINT 1.2345", 12);
        check.wrongLine("10 PRINT 1.2.3", 10);
        check.wrongLine("10 PRINT ABX", 9);
        check.wrongLine("10 PRINT ABS A", 10);
        check.wrongLine("10 PRINT AX", 8);
        check.wrongLine("10 PRINT IND", 9);
        check.wrongLine("10 PRINT SGOTO", 9);
        check.wrongLine("10 PRINT FND(1)", 9);
        check.wrongLine("10 PRINT FN", 9);
        check.wrongLine("10 PRINT P", 8);
        check.wrongLine("10 PRINT PA", 8);
        check.wrongLine("10 PRINT P(1)", 10);
        check.wrongLine("10 PRINT P(1,2,3)", 12);
        check.wrongLine("10 PRINT (A", 9);
        check.wrongLine("10 PRINT A)", 8);
        check.wrongLine("10 PRINT A,B", 8);
        check.wrongLine("10 ON SG", 6);
        check.wrongLine("10 ON SGX", 6);
        check.wrongLine("10 ON (SGOTO", 7);
        check.wrongLine("10 ON (S)GOX", 9);
    }

    private static void brackets(Check check) {
        check.wrongLine("10PRINT(((((((1", 13);
        check.wrongLine("10PRINT((((((ABS(1", 14);
        check.wrongLine("10PRINT((((((INT(1", 14);
        check.wrongLine("10PRINT((((((SGN(1", 14);
        check.wrongLine("10PRINT((((((FNA(1", 14);
        check.wrongLine("10PRINT((((((P(1,1", 13);
        check.wrongLine("10PRINT((((((A))))))+(((((((1", 27);
        check.wrongLine("10LETP((((((P", 12);
        check.wrongLine("10LETP(((((((1", 12);
        check.wrongLine("10MATP=(((((((1", 13);
        check.wrongLine("10ON((((((SGOTO", 11);
        check.wrongLine("10DEFFNA(X)=(((((((", 18);
    }

    public static void main(String[] args) {
        Check check = new Check();
        numbersAndKeywords(check);
        statements(check);
        expressions(check);
        brackets(check);
        check.play("only the last enter counts",
                "errorAt -> -1", "> 10 PRINT -> IllegalArgumentException", "errorAt -> 7", "type 65 -> 1",
                "errorAt -> 7", "run -> 0", "errorAt -> 7", "wipe -> 0", "errorAt -> 7", "enter -> IllegalArgumentException",
                "errorAt -> 0", "> 10 END -> 1", "errorAt -> -1", "> 1 X -> IllegalArgumentException", "errorAt -> 1",
                "> 20 -> NoSuchElementException", "errorAt -> -1", "> 1 X -> IllegalArgumentException", "> 10 -> 0",
                "errorAt -> -1");
        // The line would need more than 60 characters to end: what matters is a line of any length.
        check.wrongLine("10PRINT1+1+1+1+1+1+1+1+1+1+1+1+1+1+1+1+1+1+1+1+1+1+1+1+(((((", 60);
        check.finish();
    }
}
