/** STEPS of a RUN: which line is due, jumps, subroutines, the 301st STEP. */
public final class Promise06FlowTest {
    private static void jumps(Check check) {
        check.program("GOTO", "10 GOTO 30\n20 PRINT 1\n30 PRINT 2", "2", "printed 0 -> 2", "count 3 -> 1");
        check.program("GOTO a line that is not there", "10 PRINT 1\n20 GOTO 15", "NoSuchElementException",
                "at -> 20", "count 2 -> 2", "printed 0 -> 1");
        check.program("END", "10 PRINT 1\n20 END\n30 PRINT 2", "2", "count 3 -> 1", "at -> 20");
        check.program("REM and DATA do nothing", "10 REM GOTO 99\n20 DATA 1\n30 PRINT 3", "3", "printed 0 -> 3");
        check.program("lines in order of their numbers", "300 PRINT 3\n20 PRINT 2\n1 PRINT 1", "3",
                "printed 0 -> 1", "printed 1 -> 2", "printed 2 -> 3");
    }

    private static void relation(Check check, String relation, int less, int equal, int greater) {
        String[] pairs = {"1" + relation + "2", "2" + relation + "2", "2" + relation + "1"};
        int[] due = {less, equal, greater};
        for (int k = 0; k < 3; k++) {
            check.program("IF " + pairs[k], "10 IF " + pairs[k] + " THEN 30\n20 END\n30 PRINT 1", "2", "count 3 -> " + due[k]);
        }
    }

    private static void ifs(Check check) {
        relation(check, "=", 0, 1, 0);
        relation(check, "<", 1, 0, 0);
        relation(check, ">", 0, 0, 1);
        relation(check, "<=", 1, 1, 0);
        relation(check, ">=", 0, 1, 1);
        relation(check, "<>", 1, 0, 1);
        check.program("IF that does not hold goes nowhere", "10 IF 1=2 THEN 99", "1");
        check.program("IF that holds", "10 IF 1=1 THEN 99", "NoSuchElementException");
        check.program("IF works out both", "10 IF 1/0=P(1,1) THEN 10", "ArithmeticException");
        check.program("IF works out the second", "10 IF 1=P(1,1) THEN 10", "IndexOutOfBoundsException");
    }

    private static void ons(Check check) {
        String tail = " GOTO 20,30,40\n15 END\n20 PRINT 20\n25 END\n30 PRINT 30\n35 END\n40 PRINT 40";
        check.program("ON 1", "10 ON 1" + tail, "3", "printed 0 -> 20");
        check.program("ON 2.9", "10 ON 2.9" + tail, "3", "printed 0 -> 30");
        check.program("ON 3", "10 ON 3" + tail, "2", "printed 0 -> 40");
        check.program("ON 4", "10 ON 4" + tail, "IllegalArgumentException", "at -> 10");
        check.program("ON 0.9", "10 ON 0.9" + tail, "IllegalArgumentException");
        check.program("ON -1", "10 ON -1" + tail, "IllegalArgumentException");
        check.program("ON 2^32+1", "10 ON 2^20*4096+1" + tail, "IllegalArgumentException");
        check.program("ON S", "5 LET S=2\n10 ON S" + tail, "4", "printed 0 -> 30");
        check.program("ON a line that is not there", "10 ON 2 GOTO 10,99", "NoSuchElementException");
        check.program("ON another that is there", "10 ON 2 GOTO 99,20\n20 END", "2");
        check.program("ON 1/0", "10 ON 1/0 GOTO 10", "ArithmeticException");
    }

    private static void subroutines(Check check) {
        check.program("GOSUB and RETURN", "10 GOSUB 40\n20 PRINT 2\n30 END\n40 PRINT 4\n50 GOSUB 70\n60 RETURN\n70 PRINT 7\n80 RETURN",
                "8", "printed 0 -> 4", "printed 1 -> 7", "printed 2 -> 2", "count 5 -> 0", "at -> 30");
        check.program("RETURN behind the last line", "10 GOTO 30\n20 RETURN\n30 GOSUB 20", "3", "at -> 20", "count 5 -> 0");
        check.program("RETURN without a GOSUB", "10 RETURN", "IllegalStateException", "count 5 -> 0");
        check.program("eight under way", "10 LET A=A+1\n20 IF A=9 THEN 99\n30 GOSUB 10\n99 END", "27", "count 5 -> 8");
        check.program("a 9th under way", "10 LET A=A+1\n20 GOSUB 10", "IllegalStateException", "count 5 -> 8",
                "variable 0 -> 9", "count 2 -> 18");
        check.program("a 9th is tested before the line", "10 LET A=A+1\n20 IF A=9 THEN 40\n30 GOSUB 10\n40 GOSUB 99",
                "IllegalStateException", "at -> 40", "count 5 -> 8");
        check.program("GOSUB a line that is not there", "10 GOSUB 99", "NoSuchElementException", "count 5 -> 0");
        check.program("subroutines are gone at the next RUN", "10 GOSUB 20\n20 REM", "2", "count 5 -> 1", "run -> 2", "count 5 -> 1");
    }

    private static void steps(Check check) {
        check.program("300 STEPS", "10 FOR I=1 TO 99\n20 REM\n30 NEXT I\n40 IF J=1 THEN 60\n50 REM", "201");
        check.program("exactly 300", "1 LET A=A+1\n2 IF A<149 THEN 1\n3 REM\n4 REM", "300", "count 7 -> 0", "count 2 -> 300");
        check.program("a 301st", "1 LET A=A+1\n2 IF A<149 THEN 1\n3 REM\n4 REM\n5 REM", "IllegalStateException",
                "count 7 -> 1", "count 2 -> 300", "at -> 4");
        check.program("END as the 300th", "1 LET A=A+1\n2 IF A<149 THEN 1\n3 REM\n4 END\n5 REM", "300");
    }

    private static void lets(Check check) {
        check.program("LET", "10 LET A=2\n20 LET A=A*A+1\n30 DIM P(1,2)\n40 LET P(1,A-3)=A", "4", "variable 0 -> 5", "element 0 1 2 -> 5");
        check.program("the place before the value", "10 LET P(1,1)=1/0", "IndexOutOfBoundsException");
        check.program("the value behind the place", "10 DIM P(1,1)\n20 LET P(1,1)=3\n30 LET P(1,1)=1/0", "ArithmeticException",
                "element 0 1 1 -> 3");
        check.program("the row before the column", "10 LET P(1/0,FNA(1))=1", "ArithmeticException");
        check.program("what throws sets nothing", "10 LET A=4\n20 LET A=A/0", "ArithmeticException", "variable 0 -> 4");
        check.program("VARIABLES are 0 at first", "10 LET A=A+1\n20 LET B=A", "2", "variable 1 -> 1", "run -> 2", "variable 1 -> 1");
        check.program("a RUN begins anew after a throw", "10 LET A=A+1\n20 DIM P(2,2)\n30 PRINT A\n40 FOR I=1 TO 2\n50 GOSUB 60\n60 PRINT 1/0",
                "ArithmeticException", "variable 0 -> 1", "run -> ArithmeticException", "variable 0 -> 1", "count 3 -> 1",
                "count 4 -> 1", "count 5 -> 1", "count 7 -> 2", "> 60 -> 5", "run -> NoSuchElementException",
                "> 50 -> 4", "run -> 4", "count 5 -> 0");
    }

    /** A RUN that throws within an expression leaves nothing that a later RUN could stumble over. */
    private static void manyThrows(Check check) {
        String[] steps = new String[405];
        steps[0] = "> 10 PRINT 1+2*3^(4/0) -> 1";
        for (int k = 1; k <= 400; k++) {
            steps[k] = "run -> ArithmeticException";
        }
        steps[401] = "count 7 -> 400";
        steps[402] = "> 10 PRINT 1+2*3^(4/2) -> 1";
        steps[403] = "run -> 1";
        steps[404] = "printed 0 -> 19";
        check.play("many RUNS that throw", steps);
    }

    public static void main(String[] args) {
        Check check = new Check();
        manyThrows(check);
        jumps(check);
        ifs(check);
        ons(check);
        subroutines(check);
        steps(check);
        lets(check);
        check.finish();
    }
}
