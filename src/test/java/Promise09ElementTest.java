public final class Promise09ElementTest {
    public static void main(String[] args) {
        Check check = new Check();
        check.program("elements from 1, by rows",
                "10 DIM Q(2,3)\n20 LET Q(1,1)=11\n30 LET Q(1,3)=13\n40 LET Q(2,1)=21\n50 LET Q(2,3)=23\n60 DIM R(6,6)\n70 LET R(6,6)=66",
                "7", "element 1 1 1 -> 11", "element 1 1 2 -> 0", "element 1 1 3 -> 13", "element 1 2 1 -> 21",
                "element 1 2 3 -> 23", "element 2 6 6 -> 66", "element 2 6 5 -> 0",
                "element 1 0 1 -> IndexOutOfBoundsException", "element 1 1 0 -> IndexOutOfBoundsException",
                "element 1 3 1 -> IndexOutOfBoundsException", "element 1 1 4 -> IndexOutOfBoundsException",
                "element 2 7 1 -> IndexOutOfBoundsException", "element 1 -1 1 -> IndexOutOfBoundsException",
                "element 1 2147483647 1 -> IndexOutOfBoundsException",
                "element 1 1 -2147483648 -> IndexOutOfBoundsException",
                "element 0 1 1 -> IndexOutOfBoundsException", "element 3 1 1 -> IllegalArgumentException",
                "element -1 1 1 -> IllegalArgumentException", "element 3 0 0 -> IllegalArgumentException",
                "> 70 -> 6", "run -> 6", "element 2 6 6 -> 0", "> 60 -> 5", "run -> 5",
                "element 2 6 6 -> IndexOutOfBoundsException", "element 1 2 3 -> 23");
        check.finish();
    }
}
