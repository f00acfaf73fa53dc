public final class Promise01NewObjectTest {
    public static void main(String[] args) {
        Check check = new Check();
        check.play("a new object",
                "count 0 -> 0", "count 1 -> 0", "count 2 -> 0", "count 3 -> 0", "count 4 -> 0", "count 5 -> 0",
                "count 6 -> 0", "count 7 -> 0", "count 8 -> -1", "count 9 -> -1", "count 10 -> -1",
                "at -> -1", "errorAt -> -1", "printed 0 -> NoSuchElementException",
                "variable 0 -> 0", "variable 25 -> 0", "element 0 1 1 -> IndexOutOfBoundsException",
                "element 2 1 1 -> IndexOutOfBoundsException", "wipe -> 0", "run -> 0", "at -> -1", "count 7 -> 0");
        BasicMachine one = new BasicMachine();
        one.type('1');
        BasicMachine other = new BasicMachine();
        if (other.count(0) != 0 || one.count(0) != 1) {
            System.out.println("two objects share THE LINE");
            System.exit(1);
        }
        check.finish();
    }
}
