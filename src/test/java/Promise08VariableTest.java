public final class Promise08VariableTest {
    public static void main(String[] args) {
        Check check = new Check();
        check.program("letters by their places", "10 LET A=1\n20 LET O=2\n30 LET S=3\n40 LET Z=-4.5", "4",
                "variable 0 -> 1", "variable 14 -> 2", "variable 18 -> 3", "variable 25 -> -4.5", "variable 1 -> 0",
                "variable 15 -> IllegalArgumentException", "variable 16 -> IllegalArgumentException",
                "variable 17 -> IllegalArgumentException", "variable 26 -> IllegalArgumentException",
                "variable -1 -> IllegalArgumentException", "variable -2147483648 -> IllegalArgumentException",
                "variable 2147483647 -> IllegalArgumentException", "variable 2147483584 -> IllegalArgumentException",
                "> 20 -> 3", "run -> 3", "variable 14 -> 0", "variable 18 -> 3");
        check.finish();
    }
}
