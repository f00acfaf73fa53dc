public final class Promise07PrintedTest {
    public static void main(String[] args) {
        Check check = new Check();
        check.program("in order, from 0", "10 PRINT 5\n20 PRINT -2.5\n30 PRINT 0", "3",
                "printed 0 -> 5", "printed 1 -> -2.5", "printed 2 -> 0", "printed 3 -> NoSuchElementException",
                "printed -1 -> NoSuchElementException", "printed 2147483647 -> NoSuchElementException",
                "printed -2147483648 -> NoSuchElementException", "> 10 -> 2", "> 20 -> 1", "run -> 1",
                "printed 0 -> 0", "printed 1 -> NoSuchElementException");
        check.program("the first 40 are kept, all are counted",
                "10 FOR I=1 TO 45\n20 PRINT I*2\n30 NEXT I", "91",
                "count 3 -> 45", "printed 0 -> 2", "printed 39 -> 80", "printed 40 -> NoSuchElementException",
                "printed 44 -> NoSuchElementException");
        check.program("what was PRINTED before a throw stays", "10 PRINT 4\n20 PRINT 1/0\n30 PRINT 5",
                "ArithmeticException", "printed 0 -> 4", "printed 1 -> NoSuchElementException", "count 3 -> 1");
        check.finish();
    }
}
