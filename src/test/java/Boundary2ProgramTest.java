/** enter, errorAt and wipe: no line, a line to go that is not there, the 24th line and the 25th. */
public final class Boundary2ProgramTest {
    private static final String ARGUMENT = "IllegalArgumentException";
    private static final String MISSING = "NoSuchElementException";
    private static final String STATE = "IllegalStateException";

    /** The lines 10, 20, .. with as many of them as asked for, of which each but the last PRINTS its place. */
    private static String lines(int total) {
        StringBuilder lines = new StringBuilder();
        for (int k = 1; k <= total; k++) {
            lines.append(k > 1 ? "\n" : "").append(k * 10).append(k < total ? "PRINT" + k : "END");
        }
        return lines.toString();
    }

    private static String[] program(int total) {
        return Check.entered(lines(total));
    }

    private static void noLine(Check check) {
        String title = "it is no line";
        String[] texts = {"", " ", "0", "000", "1000", "A", "10X", "10LET", "10LETA=", "10PRINT1+", "10END1", "10,", "10-"};
        int[] places = {0, 0, 1, 2, 3, 0, 2, 5, 7, 9, 5, 2, 2};
        for (int k = 0; k < texts.length; k++) {
            for (int total : new int[] {1, 2, 24}) {
                check.refused(title, program(total), "> " + texts[k], ARGUMENT, "errorAt -> " + places[k]);
            }
            check.play(title, "> " + texts[k] + " -> " + ARGUMENT, "errorAt -> " + places[k], "count 0 -> 0", "count 1 -> 0",
                    "count 8 -> -1", "count 9 -> -1", "> 10PRINT7 -> 1", "run -> 1", "printed 0 -> 7");
        }
        check.play("THE LINE is taken, and is empty then", "> 10X -> " + ARGUMENT, "count 0 -> 0", "enter -> " + ARGUMENT,
                "errorAt -> 0", "type 49 -> 1");
    }

    private static void nothingToGo(Check check) {
        String title = "there is no line to go";
        check.play(title, "> 10 -> " + MISSING, "count 0 -> 0", "count 1 -> 0", "errorAt -> -1", "> 10END -> 1", "> 10 -> 0",
                "> 10 -> " + MISSING, "count 1 -> 0", "count 8 -> -1", "count 9 -> -1");
        for (String number : new String[] {"1", "9", "11", "19", "21", "29", "31", "999", "110", "101", "030"}) {
            if (number.equals("030")) {
                check.play(title, Check.joined(program(3), "> 030 -> 2", "> 30 -> " + MISSING, "count 9 -> 20", "run -> 2"));
            } else {
                check.refused(title, program(3), "> " + number, MISSING);
            }
        }
        check.refused(title + ", and -1 if the last enter did not throw IllegalArgumentException",
                Check.joined(program(3), "> 10X -> " + ARGUMENT, "errorAt -> 2"), "> 15", MISSING, "errorAt -> -1");
        check.refused(title + ", with 24 lines", program(24), "> 15", MISSING);
        check.play("the first, the last and the one between may go", Check.joined(program(3), "> 20 -> 2", "count 8 -> 10", "count 9 -> 30",
                "run -> 2", "count 3 -> 1", "> 10 -> 1", "count 8 -> 30", "run -> 1", "count 3 -> 0", "> 30 -> 0",
                "count 8 -> -1", "count 9 -> -1", "run -> 0"));
    }

    private static void fullProgram(Check check) {
        String title = "it would be the 25th";
        check.play("at most 24 lines", Check.joined(program(23), "> 240PRINT24 -> 24", "count 1 -> 24", "count 8 -> 10",
                "count 9 -> 240", "> 250END -> " + STATE, "count 1 -> 24", "count 9 -> 240"));
        for (String number : new String[] {"1", "9", "11", "125", "239", "241", "999"}) {
            check.refused(title, program(24), "> " + number + "PRINT99", STATE);
        }
        check.refused(title + ", and -1 if the last enter did not throw IllegalArgumentException",
                Check.joined(program(24), "> 10X -> " + ARGUMENT, "errorAt -> 2"), "> 15END", STATE, "errorAt -> -1");
        check.refused(title + ", and what is no line is none", program(24), "> 15PRINT", ARGUMENT, "errorAt -> 7");
        for (int k : new int[] {1, 2, 12, 23}) {
            check.play("in place of one with the same number", Check.joined(program(24), "> " + k * 10 + "PRINT99 -> 24",
                    "count 1 -> 24", "run -> 24", "printed " + (k - 1) + " -> 99", "printed 0 -> " + (k == 1 ? 99 : 1),
                    "printed 22 -> " + (k == 23 ? 99 : 23), "count 3 -> 23"));
        }
        check.play("in place of the last", Check.joined(program(24), "> 240PRINT24 -> 24", "run -> 24", "printed 23 -> 24"));
        check.play("one goes, and one more may come", Check.joined(program(24), "> 130 -> 23", "> 999END -> 24",
                "> 130END -> " + STATE, "> 10 -> 23", "> 1PRINT50 -> 24", "> 2END -> " + STATE, "count 8 -> 1",
                "count 9 -> 999", "run -> 23", "printed 0 -> 50", "printed 11 -> 12", "printed 12 -> 14"));
        check.play("in place of one, of lines that are fewer", Check.joined(program(2), "> 10PRINT5 -> 2", "> 20PRINT6 -> 2",
                "> 15PRINT7 -> 3", "run -> 3", "printed 0 -> 5", "printed 1 -> 7", "printed 2 -> 6"));
    }

    private static void errors(Check check) {
        String title = "-1 if the last enter did not throw IllegalArgumentException, or before";
        check.play(title, "errorAt -> -1", "type 88 -> 1", "errorAt -> -1", "enter -> " + ARGUMENT, "errorAt -> 0",
                "type 49 -> 1", "errorAt -> 0", "> END -> 1", "errorAt -> -1");
        check.play(title, "> 1X -> " + ARGUMENT, "> 1 -> " + MISSING, "errorAt -> -1");
        check.play(title, "> 1END -> 1", "> 1X -> " + ARGUMENT, "> 1 -> 0", "errorAt -> -1");
        check.play(title, "> 1END -> 1", "> 1X -> " + ARGUMENT, "> 1REM -> 1", "errorAt -> -1");
        check.play("nothing but enter sets it", "> 1X -> " + ARGUMENT, "run -> 0", "wipe -> 0", "type 128 -> " + ARGUMENT,
                "printed 0 -> " + MISSING, "errorAt -> 1", "count 0 -> 0", "errorAt -> 1");
        check.play("of THE LINE that was no line last", "> 1X -> " + ARGUMENT, "errorAt -> 1", "> 10LETX -> " + ARGUMENT,
                "errorAt -> 6", "> X -> " + ARGUMENT, "errorAt -> 0");
    }

    private static void wipes(Check check) {
        String title = "all lines go: how many there were";
        check.play(title, "wipe -> 0", "count 1 -> 0");
        check.play(title, "> 5END -> 1", "wipe -> 1", "wipe -> 0", "count 8 -> -1", "> 5 -> " + MISSING);
        check.play(title, Check.joined(program(23), "wipe -> 23", "wipe -> 0"));
        check.play(title, Check.joined(program(24), "wipe -> 24", "count 1 -> 0", "wipe -> 0", "run -> 0", "> 10 -> " + MISSING,
                "> 7PRINT7 -> 1", "count 8 -> 7", "count 9 -> 7", "run -> 1", "printed 0 -> 7"));
        String[] short24 = Check.entered("1END\n2END\n3END\n4END\n5END\n6END\n7END\n8END\n9END\n10END\n11END\n12END\n13END\n14END\n15END\n"
                + "16END\n17END\n18END\n19END\n20END\n21END\n22END\n23END\n24END");
        check.play("and 24 may come again", Check.joined(Check.joined(short24, "wipe -> 24"), Check.joined(short24, "> 25END -> " + STATE,
                "count 1 -> 24", "> 24REM -> 24", "wipe -> 24")));
    }

    public static void main(String[] args) {
        Check check = new Check();
        noLine(check);
        nothingToGo(check);
        fullProgram(check);
        errors(check);
        wipes(check);
        check.finish();
    }
}
