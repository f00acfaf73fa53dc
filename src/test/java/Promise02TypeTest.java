public final class Promise02TypeTest {
    public static void main(String[] args) {
        Check check = new Check();
        check.play("characters and blanks count, wrong ones change nothing",
                "type 0 -> 1", "type 127 -> 2", "type 32 -> 3", "type -1 -> IllegalArgumentException",
                "type 128 -> IllegalArgumentException", "type -2147483648 -> IllegalArgumentException",
                "type 2147483647 -> IllegalArgumentException", "count 0 -> 3", "type 65 -> 4");

        BasicMachine full = new BasicMachine();
        for (int k = 1; k <= 60; k++) {
            if (full.type(k == 1 ? '7' : k < 5 ? "REM".charAt(k - 2) : ' ') != k) {
                System.out.println("type does not answer the length " + k);
                System.exit(1);
            }
        }
        int states = 0;
        int arguments = 0;
        try {
            full.type('A');
        } catch (IllegalStateException e) {
            states++;
        }
        try {
            full.type(128);
        } catch (IllegalArgumentException e) {
            arguments++;
        }
        if (states != 1 || arguments != 1 || full.count(0) != 60 || full.enter() != 1 || full.type('A') != 1) {
            System.out.println("a full line is not as due");
            System.exit(1);
        }
        check.finish();
    }
}
