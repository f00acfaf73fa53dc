public final class Promise10AtTest {
    public static void main(String[] args) {
        Check check = new Check();
        check.program("the last line that began", "10 GOTO 30\n20 END\n30 GOTO 20", "3", "at -> 20",
                "> 20 -> 2", "at -> 20", "run -> NoSuchElementException", "at -> 30", "count 2 -> 2",
                "wipe -> 2", "at -> 30", "run -> 0", "at -> -1");
        check.program("the line that threw", "10 LET A=1\n20 PRINT A/0\n30 END", "ArithmeticException", "at -> 20");
        check.program("without an END", "10 REM\n999 REM", "2", "at -> 999");
        check.program("the 300th STEP is the last", "10 LET A=A+1\n20 GOTO 10", "IllegalStateException", "at -> 20",
                "count 2 -> 300", "variable 0 -> 150");
        check.finish();
    }
}
