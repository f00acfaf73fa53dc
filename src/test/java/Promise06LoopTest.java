/** FOR and NEXT. */
public final class Promise06LoopTest {
    private static void counting(Check check) {
        check.program("up by 1", "10 FOR I=1 TO 3\n20 PRINT I\n30 NEXT I", "7", "printed 2 -> 3", "count 3 -> 3",
                "variable 8 -> 4", "count 4 -> 0");
        check.program("down", "10 FOR I=3 TO 1 STEP -1\n20 PRINT I\n30 NEXT I", "7", "printed 2 -> 1", "variable 8 -> 0");
        check.program("by halves", "10 FOR I=0 TO 1 STEP 0.5\n20 PRINT I\n30 NEXT I", "7", "printed 1 -> 0.5", "variable 8 -> 1.5");
        check.program("once", "10 FOR I=2 TO 2\n20 PRINT I\n30 NEXT I", "3", "printed 0 -> 2", "variable 8 -> 3");
        check.program("the limit and the STEP are worked out once", "10 LET A=2\n20 FOR I=1 TO A STEP A-1\n30 LET A=9\n40 PRINT I\n50 NEXT I", "8",
                "count 3 -> 2");
        check.program("STEP 0 goes on", "10 FOR I=1 TO 2 STEP 0\n20 NEXT I", "IllegalStateException", "count 2 -> 300", "count 4 -> 1");
        check.program("the VARIABLE may be changed", "10 FOR I=1 TO 9\n20 LET I=I+3\n30 PRINT I\n40 NEXT I", "10",
                "printed 0 -> 4", "printed 1 -> 8", "printed 2 -> 12", "variable 8 -> 13");
        check.program("the VARIABLE is set behind all three", "10 LET I=5\n20 FOR I=1 TO I STEP I\n30 NEXT I", "3", "variable 8 -> 6");
        check.program("all three in order", "10 FOR I=1/0 TO P(1,1) STEP FNA(1)\n20 NEXT I", "ArithmeticException");
        check.program("the limit second", "10 FOR I=1 TO P(1,1) STEP FNA(1)\n20 NEXT I", "IndexOutOfBoundsException", "variable 8 -> 0");
        check.program("the STEP third", "10 FOR I=1 TO 1 STEP FNA(1)\n20 NEXT I", "NoSuchElementException", "variable 8 -> 0", "count 4 -> 0");
        check.program("a FOR as the last line", "10 FOR I=1 TO 2", "1", "count 4 -> 1", "variable 8 -> 1");
    }

    private static void over(Check check) {
        check.program("over: the first NEXT of it by numbers", "10 FOR I=5 TO 1\n20 PRINT 1\n30 NEXT J\n40 NEXT I\n50 PRINT 2\n60 END\n70 NEXT I", "3",
                "printed 0 -> 2", "count 3 -> 1", "variable 8 -> 5", "count 4 -> 0");
        check.program("over for a STEP below 0", "10 FOR I=1 TO 2 STEP -1\n20 PRINT 1\n30 NEXT I", "1", "count 3 -> 0", "variable 8 -> 1", "at -> 10");
        check.program("over and no NEXT behind it", "10 GOTO 30\n20 NEXT I\n30 FOR I=2 TO 1\n40 NEXT J", "IllegalStateException",
                "variable 8 -> 2", "count 4 -> 0", "at -> 30");
        check.program("over takes the old loop of it away", "10 FOR I=1 TO 3\n20 FOR J=1 TO 3\n30 FOR I=9 TO 1\n40 NEXT I", "3", "count 4 -> 0",
                "variable 8 -> 9", "variable 9 -> 1");
    }

    private static void nests(Check check) {
        check.program("six loops", "1 FOR A=1 TO 2\n2 FOR B=1 TO 2\n3 FOR C=1 TO 2\n4 FOR D=1 TO 2\n5 FOR E=1 TO 2\n6 FOR F=1 TO 2", "6", "count 4 -> 6");
        check.program("a 7th", "1 FOR A=1 TO 2\n2 FOR B=1 TO 2\n3 FOR C=1 TO 2\n4 FOR D=1 TO 2\n5 FOR E=1 TO 2\n6 FOR F=1 TO 2\n7 FOR G=4 TO 5",
                "IllegalStateException", "count 4 -> 6", "variable 6 -> 4", "at -> 7");
        check.program("a 7th that is over is none", "1 FOR A=1 TO 2\n2 FOR B=1 TO 2\n3 FOR C=1 TO 2\n4 FOR D=1 TO 2\n5 FOR E=1 TO 2\n6 FOR F=1 TO 2\n"
                + "7 FOR G=6 TO 5\n8 NEXT G", "7", "count 4 -> 6", "variable 6 -> 6");
        check.program("the same VARIABLE makes room", "1 FOR A=1 TO 2\n2 FOR B=1 TO 2\n3 FOR C=1 TO 2\n4 FOR D=1 TO 2\n5 FOR E=1 TO 2\n6 FOR F=1 TO 2\n"
                + "7 FOR C=4 TO 5", "7", "count 4 -> 3", "variable 2 -> 4");
        check.program("a loop of the same VARIABLE is gone with those behind", "10 FOR I=1 TO 2\n20 FOR J=1 TO 2\n30 FOR I=1 TO 2\n40 NEXT J",
                "IllegalStateException", "count 4 -> 1", "at -> 40");
        check.program("NEXT takes later loops away", "10 FOR I=1 TO 2\n20 FOR J=1 TO 2\n30 FOR K=1 TO 2\n40 NEXT I\n50 PRINT I\n60 NEXT J",
                "IllegalStateException", "printed 0 -> 3", "count 4 -> 0", "at -> 60");
        check.program("NEXT keeps earlier loops", "10 FOR I=1 TO 2\n20 FOR J=1 TO 2\n30 NEXT J\n40 PRINT J\n50 NEXT I", "11",
                "count 3 -> 2", "variable 8 -> 3", "variable 9 -> 3", "count 4 -> 0");
    }

    private static void nexts(Check check) {
        check.program("NEXT without a loop", "10 NEXT I", "IllegalStateException");
        check.program("NEXT of no loop keeps the others", "10 FOR I=1 TO 2\n20 FOR J=1 TO 2\n30 NEXT K", "IllegalStateException", "count 4 -> 2");
        check.program("NEXT of a loop that ended", "10 FOR I=1 TO 1\n20 NEXT I\n30 NEXT I", "IllegalStateException", "at -> 30", "variable 8 -> 2");
        check.program("a NEXT that grows to 2^60", "10 FOR I=1 TO 2\n20 LET I=2^20*2^20*2^20\n30 NEXT I",
                "3", "variable 8 -> " + Math.pow(2, 60), "count 4 -> 0");
        check.program("a NEXT that grows too large throws", "10 FOR I=1 TO 2 STEP 1000\n20 FOR J=1 TO 2\n30 LET I=2^20*2^20*2^20\n40 NEXT I",
                "ArithmeticException", "variable 8 -> " + Math.pow(2, 60), "count 4 -> 1");
        check.program("two NEXTS of one loop", "10 FOR I=1 TO 5\n20 IF I=2 THEN 40\n30 NEXT I\n40 PRINT I\n50 NEXT I", "IllegalStateException",
                "printed 0 -> 2", "printed 1 -> 6", "at -> 50", "count 2 -> 14", "count 4 -> 0");
    }

    public static void main(String[] args) {
        Check check = new Check();
        counting(check);
        over(check);
        nests(check);
        nexts(check);
        check.finish();
    }
}
