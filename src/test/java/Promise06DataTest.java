/** DATA, READ and RESTORE. */
public final class Promise06DataTest {
    public static void main(String[] args) {
        Check check = new Check();
        check.program("in order of the lines", "50 DATA 4,-5.25\n10 DATA 1,2,3\n20 READ A\n30 READ B\n40 READ C\n60 READ D\n70 READ E", "7",
                "variable 0 -> 1", "variable 1 -> 2", "variable 2 -> 3", "variable 3 -> 4", "variable 4 -> -5.25", "count 6 -> 0");
        check.program("DATA behind an END", "10 READ A\n20 READ B\n30 END\n40 DATA 0.001,-999999.999", "3",
                "variable 0 -> 0.001", "variable 1 -> -999999.999");
        check.program("no c left", "10 READ A\n20 READ B\n30 DATA 7", "NoSuchElementException", "at -> 20", "variable 0 -> 7",
                "variable 1 -> 0", "count 6 -> 0");
        check.program("no DATA", "10 READ A", "NoSuchElementException");
        check.program("RESTORE", "10 READ A\n20 READ B\n30 RESTORE\n40 READ C\n50 DATA 7,8,9", "5", "variable 2 -> 7", "count 6 -> 2");
        check.program("RESTORE when none is left", "10 READ A\n20 RESTORE\n30 READ B\n40 DATA 7", "4", "variable 1 -> 7", "count 6 -> 0");
        check.program("READ of an element", "10 DIM P(2,2)\n20 READ I\n30 READ P(I,I)\n40 DATA 2,5", "4", "element 0 2 2 -> 5");
        check.program("the place before the c", "10 READ P(1,1)", "IndexOutOfBoundsException");
        check.program("the place before the c, which stays", "10 READ A\n20 READ P(1,1)\n30 DATA 1,2", "IndexOutOfBoundsException", "count 6 -> 1");
        check.program("the element's place may throw", "10 READ P(1/0,1)", "ArithmeticException");
        check.program("no c left for an element", "10 DIM P(1,1)\n20 READ P(1,1)", "NoSuchElementException", "element 0 1 1 -> 0");
        check.program("each RUN reads from the first", "10 READ A\n20 DATA 3,4", "2", "variable 0 -> 3", "run -> 2", "variable 0 -> 3", "count 6 -> 1");
        check.program("six c's on a line", "10 DATA 1,2,3,4,5,6\n20 FOR I=1 TO 6\n30 READ A\n40 LET S=S*10+A\n50 NEXT I", "20", "variable 18 -> 123456");
        check.program("as many c's as there can be", "1 DATA 1,1,1,1,1,1\n2 DATA 1,1,1,1,1,1\n3 DATA 1,1,1,1,1,1\n4 DATA 1,1,1,1,1,1\n"
                + "5 DATA 1,1,1,1,1,1\n6 DATA 1,1,1,1,1,1\n7 DATA 1,1,1,1,1,1\n8 DATA 1,1,1,1,1,1\n9 DATA 1,1,1,1,1,1\n"
                + "10 DATA 1,1,1,1,1,1\n11 DATA 1,1,1,1,1,1\n12 DATA 1,1,1,1,1,1\n13 DATA 1,1,1,1,1,1\n14 DATA 1,1,1,1,1,1\n"
                + "15 DATA 1,1,1,1,1,1\n16 DATA 1,1,1,1,1,1\n17 DATA 1,1,1,1,1,1\n18 DATA 1,1,1,1,1,1\n19 DATA 1,1,1,1,1,1\n"
                + "20 DATA 1,1,1,1,1,1\n21 DATA 1,1,1,1,1,1\n22 DATA 1,1,1,1,1,1\n23 DATA 1,1,1,1,1,1\n24 DATA 1,1,1,1,1,1", "24",
                "count 6 -> 144");
        check.finish();
    }
}
