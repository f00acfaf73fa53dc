public final class Promise03EnterTest {
    private static String[] fullProgram(String... more) {
        String[] steps = new String[24 + more.length];
        for (int k = 0; k < 24; k++) {
            steps[k] = "> " + (k * 10 + 10) + " PRINT " + k + " -> " + (k + 1);
        }
        System.arraycopy(more, 0, steps, 24, more.length);
        return steps;
    }

    public static void main(String[] args) {
        Check check = new Check();
        check.play("lines come, are replaced and go",
                "> 20 PRINT 2 -> 1", "> 10 PRINT 1 -> 2", "> 30 PRINT 3 -> 3", "> 020 PRINT 22 -> 3",
                "run -> 3", "printed 0 -> 1", "printed 1 -> 22", "printed 2 -> 3",
                "> 10 -> 2", "> 10 -> NoSuchElementException", "count 1 -> 2", "count 0 -> 0", "> 25 -> NoSuchElementException",
                "run -> 2", "printed 0 -> 22", "> 030 -> 1", "> 20 -> 0", "> 20 -> NoSuchElementException", "run -> 0");
        check.play("a wrong line changes no program, and THE LINE is empty then",
                "> 10 PRINT 1 -> 1", "> 10 PRINT -> IllegalArgumentException", "count 0 -> 0", "count 1 -> 1",
                "run -> 1", "printed 0 -> 1", "enter -> IllegalArgumentException", "count 1 -> 1");
        check.play("the 25th line", fullProgram(
                "> 15 PRINT 99 -> IllegalStateException", "count 0 -> 0", "count 1 -> 24", "errorAt -> -1",
                "> 240 PRINT 99 -> 24", "> 10 PRINT 98 -> 24", "> 15 -> NoSuchElementException",
                "> 15 PRINT -> IllegalArgumentException", "run -> 24", "printed 0 -> 98", "printed 1 -> 1",
                "printed 23 -> 99", "> 120 -> 23", "> 5 PRINT 97 -> 24", "> 999 END -> IllegalStateException",
                "run -> 24", "printed 0 -> 97", "printed 1 -> 98", "printed 11 -> 10", "printed 12 -> 12"));
        check.play("nothing is left of lines before, right or wrong",
                "> 10 PRINT ((((((1/0+ -> IllegalArgumentException", "> 10 PRINT ((((((1)))))) -> 1",
                "> 10 ON 2 GOTO 5,6,7, -> IllegalArgumentException", "> 20 ON 2 GOTO 30,40 -> 2",
                "> 30 END -> 3", "> 40 PRINT 4 -> 4", "run -> 3", "printed 0 -> 1", "printed 1 -> 4", "wipe -> 4",
                "> 50 DATA 3,4 -> 1", "> 10 FOR I=2 TO 1 STEP -1 -> 2", "> 30 LET P(1,2)=A -> 3", "> 10 READ A -> 3",
                "> 30 FOR I=1 TO 2 -> 3", "> 40 NEXT I -> 4", "run -> 5", "variable 0 -> 3", "variable 8 -> 3", "count 6 -> 1",
                "> 30 PRINT A+1 -> 4", "> 40 -> 3", "> 5 DIM Q(2,3) -> 4", "> 40 DATA 9 -> 5", "run -> 5",
                "variable 0 -> 9", "printed 0 -> 10", "count 6 -> 2", "element 1 2 3 -> 0",
                "element 1 3 2 -> IndexOutOfBoundsException");
        check.play("blanks mean nothing",
                ">   1 0 P R I N T 1 2 + 3  -> 1", "run -> 1", "printed 0 -> 15", "at -> 10", ">  1 0  -> 0");

        check.rightLine("1END");
        check.rightLine("999 END");
        check.rightLine("001RETURN");
        check.rightLine("10 LET A = B");
        check.rightLine("10 LET P(1,2)=Q(R(1,1),A)");
        check.rightLine("10 PRINT -A+B-C*D/E^F");
        check.rightLine("10 IF A<>B THEN 999");
        check.rightLine("10 IF A<=B THEN 1");
        check.rightLine("10 IF A>=-B THEN 1");
        check.rightLine("10 IF S>T THEN 1");
        check.rightLine("10 GOTO 5");
        check.rightLine("10 ON A GOTO 1,2,3,4");
        check.rightLine("10 ON S GOTO 1");
        check.rightLine("10 ON SGN(S)*S GOTO 1");
        check.rightLine("10 GOSUB 999");
        check.rightLine("10 FOR S=S TO S STEP S");
        check.rightLine("10 FOR T=T TO T");
        check.rightLine("10 NEXT N");
        check.rightLine("10 READ R(1,I)");
        check.rightLine("10 READ X");
        check.rightLine("10 DATA 1,-2,3.5,-0.001,999999.999,0");
        check.rightLine("10 RESTORE");
        check.rightLine("10 DIM R(6,1)");
        check.rightLine("10 DEF FN C(Z)=FN A(FN B(Z))");
        check.rightLine("10 MAT P=ZER");
        check.rightLine("10 MAT Q=CON");
        check.rightLine("10 MAT R=IDN");
        check.rightLine("10 MAT P=P");
        check.rightLine("10 MAT P=Q+R");
        check.rightLine("10 MAT P=Q-R");
        check.rightLine("10 MAT P=Q*R");
        check.rightLine("10 MAT P=TRN(P)");
        check.rightLine("10 MAT P=(-ABS(A)+2)*Q");
        check.rightLine("10 REM");
        check.rightLine("10 REM any ( thing ~ , at all");
        check.rightLine("10 END");
        check.rightLine("10PRINT((((((A))))))");
        check.rightLine("10PRINTABS(INT(SGN(FNA(P(1,(A))))))");
        check.finish();
    }
}
