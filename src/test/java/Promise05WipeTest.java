public final class Promise05WipeTest {
    public static void main(String[] args) {
        Check check = new Check();
        check.play("all lines go, and what the last RUN left stays",
                "> 10 DIM P(1,1) -> 1", "> 20 LET A=7 -> 2", "> 30 PRINT A -> 3", "> 40 DATA 1,2 -> 4",
                "> 50 FOR I=1 TO 2 -> 5", "> 60 GOSUB 80 -> 6", "> 80 REM -> 7", "run -> 7",
                "type 49 -> 1", "wipe -> 7", "count 0 -> 1", "count 1 -> 0", "count 8 -> -1", "count 9 -> -1",
                "variable 0 -> 7", "printed 0 -> 7", "element 0 1 1 -> 0", "at -> 80", "count 2 -> 7", "count 3 -> 1",
                "count 4 -> 1", "count 5 -> 1", "count 6 -> 2", "count 7 -> 0", "wipe -> 0",
                "run -> 0", "variable 0 -> 0", "printed 0 -> NoSuchElementException",
                "element 0 1 1 -> IndexOutOfBoundsException", "count 4 -> 0", "count 5 -> 0", "count 6 -> 0", "at -> -1",
                "> 0 PRINT 3 -> 1", "run -> 1", "at -> 10", "printed 0 -> 3");
        check.finish();
    }
}
