/** printed, variable, element, at and count: what there is, and one beyond it on each side. */
public final class Boundary6AnswersTest {
    private static final String ARGUMENT = "IllegalArgumentException";
    private static final String BOUNDS = "IndexOutOfBoundsException";
    private static final String MISSING = "NoSuchElementException";
    private static final int[] FAR = {Integer.MIN_VALUE, Integer.MIN_VALUE + 1, Integer.MAX_VALUE - 1, Integer.MAX_VALUE,
        -256, 256, 1 << 16, 1 << 30, -(1 << 30)};

    /** A program that leaves something of everything. */
    private static final String[] LEFT = Check.joined(Check.entered("5DIMP(1,1)\n10DIMQ(2,3)\n15MATQ=CON\n20LETA=1.5\n25LETZ=-2\n30PRINTA\n35PRINTZ\n"
            + "40FORI=1TO2\n45FORJ=1TO2\n50GOSUB60\n60READB\n65DATA4,5,6"), "run -> 12");

    private static void numbersPrinted(Check check) {
        String title = "printed: there is none";
        String[] none = {"-1", "0", "1", "39", "40", "41"};
        for (String k : none) {
            check.refused(title, new String[0], "printed " + k, MISSING);
        }
        check.play("printed: the k-th, from 0", Check.joined(LEFT, "printed 0 -> 1.5", "printed 1 -> -2"));
        for (int k : new int[] {-2, -1, 2, 3, 39, 40, 41}) {
            check.refused(title, LEFT, "printed " + k, MISSING);
        }
        for (int k : FAR) {
            check.refused(title, LEFT, "printed " + k, MISSING);
        }
        String[] many = Check.joined(Check.entered("10FORI=1TO50\n20PRINT-I\n30NEXTI"), "run -> 101");
        check.play("printed: the first 40 are kept", Check.joined(many, "printed 0 -> -1", "printed 38 -> -39", "printed 39 -> -40"));
        for (int k : new int[] {-1, 40, 41, 49, 50, 51}) {
            check.refused(title, many, "printed " + k, MISSING);
        }
    }

    private static void variables(Check check) {
        String title = "variable: there is none such (P, Q, R neither)";
        for (int s = -3; s <= 128; s++) {
            boolean isVariable = s >= 0 && s <= 25 && (s < 15 || s > 17);
            if (isVariable) {
                String letter = "" + (char) ('A' + s);
                check.play("variable 0 .. 25 (A .. Z)", "variable " + s + " -> 0", "> 10LET" + letter + "=" + (s + 0.25) + " -> 1", "run -> 1",
                        "variable " + s + " -> " + (s + 0.25), "variable " + (s == 0 ? 25 : 0) + " -> 0");
            } else {
                check.refused(title, new String[0], "variable " + s, ARGUMENT);
                check.refused(title, LEFT, "variable " + s, ARGUMENT);
            }
        }
        for (int s : FAR) {
            check.refused(title, LEFT, "variable " + s, ARGUMENT);
        }
    }

    private static void elements(Check check) {
        for (int m : new int[] {-2, -1, 3, 4}) {
            check.refused("element: no such number", new String[0], "element " + m + " 1 1", ARGUMENT);
            check.refused("element: no such number", LEFT, "element " + m + " 1 1", ARGUMENT);
            check.refused("element: the first named is thrown", LEFT, "element " + m + " 0 0", ARGUMENT);
            check.refused("element: the first named is thrown", LEFT, "element " + m + " 7 7", ARGUMENT);
        }
        for (int m : FAR) {
            check.refused("element: no such number", LEFT, "element " + m + " 1 1", ARGUMENT);
        }
        for (int m = 0; m <= 2; m++) {
            check.refused("element: no such MATRIX", new String[0], "element " + m + " 1 1", BOUNDS);
        }
        int[] rows = {1, 2, 0};
        int[] columns = {1, 3, 0};
        for (int m = 0; m <= 2; m++) {
            for (int i = -1; i <= 7; i++) {
                for (int j = -1; j <= 7; j++) {
                    if (i >= 1 && i <= rows[m] && j >= 1 && j <= columns[m]) {
                        check.play("element: from 1", Check.joined(LEFT, "element " + m + " " + i + " " + j + " -> " + m));
                    } else {
                        check.refused("element: no such element", LEFT, "element " + m + " " + i + " " + j, BOUNDS);
                    }
                }
            }
        }
        for (int far : FAR) {
            check.refused("element: no such element", LEFT, "element 1 " + far + " 1", BOUNDS);
            check.refused("element: no such element", LEFT, "element 1 1 " + far, BOUNDS);
        }
    }

    private static void counts(Check check) {
        String[] now = {"0", "12", "12", "2", "2", "1", "2", "0", "5", "65"};
        String[] first = {"0", "0", "0", "0", "0", "0", "0", "0", "-1", "-1"};
        for (int what = -3; what <= 13; what++) {
            boolean isCount = what >= 0 && what <= 9;
            check.play("count: " + what + ", of a new object", "count " + what + " -> " + (isCount ? first[what] : "-1"));
            check.play("count: " + what, Check.joined(LEFT, "count " + what + " -> " + (isCount ? now[what] : "-1")));
        }
        for (int what : FAR) {
            check.play("count: else -1", Check.joined(LEFT, "count " + what + " -> -1"));
        }
        check.play("count 0: characters in THE LINE", "type 32 -> 1", "count 0 -> 1", "type 49 -> 2", "type 128 -> " + ARGUMENT,
                "count 0 -> 2", "enter -> " + MISSING, "count 0 -> 0");
        check.play("count 7: RUNS that threw", "> 1LETA=1/A -> 1", "run -> ArithmeticException", "run -> ArithmeticException", "count 7 -> 2",
                "> 1REM -> 1", "run -> 1", "count 7 -> 2", "wipe -> 1", "run -> 0", "count 7 -> 2", "printed 0 -> " + MISSING,
                "element 0 1 1 -> " + BOUNDS, "enter -> " + ARGUMENT, "count 7 -> 2", "> 1RETURN -> 1", "run -> IllegalStateException",
                "count 7 -> 3");
        check.play("count 8 and 9: the least, the greatest LINE NUMBER", "> 500END -> 1", "count 8 -> 500", "count 9 -> 500", "> 999END -> 2",
                "count 8 -> 500", "count 9 -> 999", "> 1END -> 3", "count 8 -> 1", "count 9 -> 999", "> 1 -> 2", "> 999 -> 1", "count 8 -> 500",
                "count 9 -> 500", "> 500 -> 0", "count 8 -> -1", "count 9 -> -1");
        check.play("count 6: c's not read at its end (0 before)", "> 1DATA1,2,3,4,5,6 -> 1", "count 6 -> 0", "run -> 1", "count 6 -> 6",
                "> 2READA -> 2", "count 6 -> 6", "run -> 2", "count 6 -> 5", "wipe -> 2", "count 6 -> 5", "run -> 0", "count 6 -> 0");
        check.play("count 6: also when it threw", "> 1DATA1,2 -> 1", "> 2READA -> 2", "> 3LETA=1/0 -> 3", "run -> ArithmeticException",
                "count 6 -> 1");
    }

    private static void places(Check check) {
        check.play("at: -1 if there is none", "at -> -1", "> 10REM -> 1", "at -> -1", "run -> 1", "at -> 10", "> 10 -> 0", "at -> 10",
                "run -> 0", "at -> -1");
        check.play("at: the least and the greatest", "> 1REM -> 1", "run -> 1", "at -> 1", "> 999REM -> 2", "run -> 2", "at -> 999");
        check.play("at: of a STEP that threw", "> 10REM -> 1", "> 20NEXTI -> 2", "> 30REM -> 3", "run -> IllegalStateException", "at -> 20");
    }

    /** What the last RUN left stays, whatever is called that is no RUN. */
    private static void wipeLeaves(Check check) {
        String[] stands = {"at -> 65", "count 2 -> 12", "count 3 -> 2", "count 4 -> 2", "count 5 -> 1", "count 6 -> 2", "count 7 -> 0",
            "printed 0 -> 1.5", "printed 1 -> -2", "printed 2 -> " + MISSING, "variable 0 -> 1.5", "variable 1 -> 4", "variable 8 -> 1",
            "variable 25 -> -2", "element 0 1 1 -> 0", "element 1 2 3 -> 1", "element 2 1 1 -> " + BOUNDS};
        check.play("what the last RUN left stays", Check.joined(LEFT, stands));
        check.play("wipe: what the last RUN left stays", Check.joined(Check.joined(LEFT, "wipe -> 12"), stands));
        check.play("enter: what the last RUN left stays", Check.joined(Check.joined(LEFT, "> 40 -> 11", "> 65DATA9 -> 11",
                "> 1PRINT1 -> 12", "> 2X -> " + ARGUMENT), stands));
    }

    public static void main(String[] args) {
        Check check = new Check();
        numbersPrinted(check);
        variables(check);
        elements(check);
        counts(check);
        places(check);
        wipeLeaves(check);
        check.finish();
    }
}
