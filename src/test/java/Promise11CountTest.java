public final class Promise11CountTest {
    public static void main(String[] args) {
        Check check = new Check();
        check.program("all counts",
                "100 DATA 1,2,3\n20 FOR I=1 TO 3\n30 FOR J=1 TO 3\n40 READ A\n50 PRINT A\n60 GOSUB 80\n80 GOSUB 90\n90 END\n"
                        + "200 DATA 4,5",
                "7", "type 32 -> 1", "type 65 -> 2", "count 0 -> 2", "count 1 -> 9", "count 2 -> 7", "count 3 -> 1",
                "count 4 -> 2", "count 5 -> 2", "count 6 -> 4", "count 7 -> 0", "count 8 -> 20", "count 9 -> 200",
                "count 10 -> -1", "count -1 -> -1", "count 2147483647 -> -1", "count -2147483648 -> -1",
                "enter -> IllegalArgumentException", "count 0 -> 0");
        check.play("RUNS that threw are counted on",
                "> 10 PRINT 1/A -> 1", "run -> ArithmeticException", "count 7 -> 1", "count 2 -> 1",
                "run -> ArithmeticException", "count 7 -> 2", "> 5 LET A=1 -> 2", "run -> 2", "count 7 -> 2",
                "wipe -> 2", "count 7 -> 2", "> 7 RETURN -> 1", "run -> IllegalStateException", "count 7 -> 3",
                "count 8 -> 7", "count 9 -> 7");
        check.play("c's not read stay as they were at the end of the RUN",
                "> 10 DATA 1,2,3 -> 1", "count 6 -> 0", "run -> 1", "count 6 -> 3", "> 10 -> 0", "count 6 -> 3",
                "> 20 DATA 1 -> 1", "count 6 -> 3", "run -> 1", "count 6 -> 1", "> 10 READ A -> 2", "> 15 READ A -> 3",
                "run -> NoSuchElementException", "count 6 -> 0", "> 15 RESTORE -> 3", "run -> 3", "count 6 -> 1");
        check.finish();
    }
}
