/** STEPS of a RUN: lines that are not there, READ, ON, GOSUB, FOR, NEXT, the 301st STEP and the 41st number. */
public final class Boundary4RunTest {
    private static final String ARGUMENT = "IllegalArgumentException";
    private static final String ARITHMETIC = "ArithmeticException";
    private static final String BOUNDS = "IndexOutOfBoundsException";
    private static final String MISSING = "NoSuchElementException";
    private static final String STATE = "IllegalStateException";
    private static final double LARGEST = 1152921504606846976.0;

    private static void noLines(Check check) {
        check.play("a RUN of no lines", "run -> 0", "at -> -1", "count 2 -> 0", "count 7 -> 0", "> 10LETA=1/A -> 1",
                "run -> " + ARITHMETIC, "> 10 -> 0", "run -> 0", "at -> -1", "count 2 -> 0", "count 7 -> 1");
        check.play("a RUN begins with nothing", "> 10DIMP(2,2) -> 1", "> 15DEFFNA(X)=1 -> 2", "> 20LETA=1 -> 3", "> 30PRINTA -> 4",
                "> 40FORI=1TO2 -> 5", "> 50GOSUB60 -> 6", "> 60READB -> 7", "> 70DATA1,2,3 -> 8", "run -> 8",
                "count 3 -> 1", "count 4 -> 1", "count 5 -> 1", "count 6 -> 2", "wipe -> 8", "run -> 0", "count 2 -> 0",
                "count 3 -> 0", "count 4 -> 0", "count 5 -> 0", "count 6 -> 0", "count 7 -> 0", "variable 0 -> 0", "variable 1 -> 0",
                "variable 8 -> 0", "element 0 1 1 -> " + BOUNDS, "printed 0 -> " + MISSING, "at -> -1");
        check.program("one line", "999REM", "1", "at -> 999", "count 2 -> 1");
        check.program("at the line with the least number", "999PRINT999\n1PRINT1\n500PRINT500", "3", "printed 0 -> 1", "printed 1 -> 500",
                "printed 2 -> 999", "at -> 999");
    }

    private static void linesNotThere(Check check) {
        String title = "a line that is gone to and is not there";
        for (String n : new String[] {"1", "9", "11", "29", "31", "39", "41", "999"}) {
            String[] stands = {"at -> 30", "count 2 -> 2", "count 3 -> 1", "printed 0 -> 7", "count 4 -> 0", "count 5 -> 0", "count 7 -> 1"};
            check.program(title, "10PRINT7\n30GOTO" + n + "\n40PRINT8", MISSING, stands);
            check.program(title, "10PRINT7\n30IF1=1THEN" + n + "\n40PRINT8", MISSING, stands);
            check.program(title, "10PRINT7\n30ON1GOTO" + n + ",40\n40PRINT8", MISSING, stands);
            check.program(title, "10PRINT7\n30ON2GOTO40," + n + "\n40PRINT8", MISSING, stands);
            check.program(title, "10PRINT7\n30GOSUB" + n + "\n40PRINT8", MISSING, stands);
            check.program("none is gone to", "10PRINT7\n30IF1=2THEN" + n + "\n40PRINT8", "3", "printed 1 -> 8");
            check.program("another is gone to", "10PRINT7\n30ON2GOTO" + n + ",40\n40PRINT8", "3", "printed 1 -> 8");
        }
        check.program("the first line is there", "10LETA=A+1\n20IFA<3THEN10", "6", "variable 0 -> 3");
        check.program("the last line is there", "10GOTO999\n20PRINT1\n999PRINT2", "2", "printed 0 -> 2");
        check.program("the same line is there", "10ON1GOTO10", STATE, "count 2 -> 300", "at -> 10");
        check.program("a line that went", "10GOTO20\n20END", "2", "> 20 -> 1", "run -> " + MISSING);
    }

    private static void constants(Check check) {
        String title = "READ: no c left";
        check.program(title, "10READA", MISSING, "count 6 -> 0", "at -> 10", "variable 0 -> 0");
        check.program(title, "10READA\n20READB\n30READC\n40DATA5,6", MISSING, "at -> 30", "variable 0 -> 5", "variable 1 -> 6",
                "variable 2 -> 0", "count 6 -> 0");
        check.program("the last c", "10READA\n20READB\n40DATA5,6", "3", "variable 1 -> 6", "count 6 -> 0");
        check.program("one c left", "10READA\n40DATA5,6", "2", "count 6 -> 1");
        check.program("what READ would have set stays", "10READA\n20READA\n30DATA5", MISSING, "variable 0 -> 5");
        check.program("what READ would have set stays", "10DIMP(1,1)\n20READP(1,1)\n30READP(1,1)\n40DATA5", MISSING, "element 0 1 1 -> 5");
        check.program("the first of all c's again", "10READA\n20RESTORE\n30READB\n40READC\n50DATA5,6", "5", "variable 1 -> 5",
                "variable 2 -> 6", "count 6 -> 0");
        check.program("the first of all c's again", "10READA\n20READA\n30RESTORE\n40READB\n50READC\n60READD\n70DATA5\n80DATA6", MISSING,
                "at -> 60", "count 2 -> 6", "variable 2 -> 6");
        check.program("of all DATA lines in order of their numbers", "30DATA3\n10DATA1\n5READA\n20DATA2\n6READB\n7READC\n8READD", MISSING,
                "variable 0 -> 1", "variable 1 -> 2", "variable 2 -> 3", "at -> 8");
        check.program("the place first, then the value", "10READP(1,1)", BOUNDS);
        check.program("the place first, then the value", "10READP(1/0,1)", ARITHMETIC);
        check.program("the place first, then the value", "10READP(1,1)\n20DATA5", BOUNDS, "count 6 -> 1");
        check.program("the place first, then the value", "10DIMP(1,1)\n20READP(1,1)", MISSING);
        check.program("the place first, then the value", "10LETP(1,1)=1/0", BOUNDS);
        check.program("the place first, then the value", "10DIMP(1,1)\n20LETP(1,1)=1/0", ARITHMETIC);
        check.program("the place first, then the value", "10LETP(FNA(1),1)=1/0", MISSING);
        check.program("the place first, then the value", "10LETP(1,1/0)=FNA(1)", ARITHMETIC);
        check.program("1 c and 6 c's on a line", "10DATA1\n20DATA1,2,3,4,5,6\n30FORI=1TO7\n40READA\n50NEXTI", "17", "variable 0 -> 6", "count 6 -> 0");
        check.program("an 8th of 7 c's", "10DATA1\n20DATA1,2,3,4,5,6\n30FORI=1TO8\n40READA\n50NEXTI", MISSING, "variable 8 -> 8", "variable 0 -> 6");
    }

    private static void choices(Check check) {
        String title = "the n in this place, from 1, is gone to; none: IllegalArgumentException";
        String[] lists = {"20", "20,30", "20,30,40", "20,30,40,50"};
        String[] values = {"-8^20", "-1", "-0.999", "0", "0.999", "1", "1.999", "2", "2.999", "3", "3.999", "4", "4.999", "5", "5.5", "6", "8^20",
            "2^20*4096+1"};
        for (int total = 1; total <= 4; total++) {
            for (String value : values) {
                double e = value.startsWith("-8") ? -LARGEST : value.startsWith("8") ? LARGEST
                        : value.startsWith("2^") ? 4294967297.0 : Double.parseDouble(value);
                long place = (long) e;
                boolean isThere = place >= 1 && place <= total;
                String program = "10ON" + value + "GOTO" + lists[total - 1] + "\n15END\n20PRINT2\n25END\n30PRINT3\n35END\n40PRINT4\n45END\n50PRINT5\n55END";
                if (isThere) {
                    check.program(title, program, "3", "printed 0 -> " + (place + 1), "at -> " + (place * 10 + 15));
                } else {
                    check.program(title, program, ARGUMENT, "at -> 10", "count 2 -> 1", "count 3 -> 0", "count 7 -> 1");
                }
            }
        }
        check.program("none is thrown before a line that is not there", "10ON0GOTO99", ARGUMENT);
        check.program("none is thrown before a line that is not there", "10ON2GOTO99", ARGUMENT);
        check.program("and a line that is not there is another", "10ON1GOTO99", MISSING);
        check.program("e throws first", "10ON1/0GOTO99", ARITHMETIC);
    }

    private static void subroutines(Check check) {
        String title = "a 9th subroutine under way";
        check.program("8 under way, and each has its RETURN, but no more", "10LETA=A+1\n20IFA>8THEN50\n30GOSUB10\n40LETB=B+1\n50RETURN", STATE,
                "at -> 50", "variable 0 -> 9", "variable 1 -> 8", "count 5 -> 0", "count 7 -> 1");
        check.program("8 under way at the end", "10LETA=A+1\n20IFA=9THEN40\n30GOSUB10\n40END", "27", "count 5 -> 8", "variable 0 -> 9");
        check.program(title, "10LETA=A+1\n20GOSUB10", STATE, "count 5 -> 8", "variable 0 -> 9", "count 2 -> 18", "at -> 20");
        check.program(title + " (tested before n)", "10LETA=A+1\n20IFA=9THEN40\n30GOSUB10\n40GOSUB99", STATE, "count 5 -> 8", "at -> 40");
        check.program("an 8th, whose n is not there", "10LETA=A+1\n20IFA=8THEN40\n30GOSUB10\n40GOSUB99", MISSING, "count 5 -> 7", "at -> 40");
        check.program("a RETURN makes room", "10LETA=A+1\n20IFA=9THEN60\n30GOSUB10\n40GOSUB70\n50END\n60RETURN\n70END", "29", "count 5 -> 8",
                "at -> 70");
        check.program("one after the other", "10FORI=1TO20\n20GOSUB50\n30NEXTI\n40END\n50RETURN", "62", "count 5 -> 0");
        title = "a RETURN without one";
        check.program(title, "10RETURN", STATE, "at -> 10", "count 2 -> 1", "count 5 -> 0", "count 7 -> 1");
        check.program(title, "10GOSUB20\n20RETURN", STATE, "count 2 -> 3", "at -> 20", "count 5 -> 0");
        check.program(title, "10GOSUB30\n20RETURN\n30RETURN", STATE, "count 2 -> 3", "at -> 20");
        check.program("a RETURN with one", "10GOSUB30\n20END\n30RETURN", "3", "at -> 20", "count 5 -> 0");
        check.program("a RETURN to no line", "10GOTO30\n20RETURN\n30GOSUB20", "3", "at -> 20", "count 5 -> 0");
        check.program("a RUN begins with no subroutines", "10GOSUB20\n20REM", "2", "> 10REM -> 2", "> 20RETURN -> 2", "run -> " + STATE);
    }

    private static final String SIX = "1FORA=1TO9\n2FORB=1TO9\n3FORC=1TO9\n4FORD=1TO9\n5FORE=1TO9\n6FORF=1TO9";

    private static void loops(Check check) {
        String title = "a 7th loop";
        check.program("5 loops", SIX.substring(0, SIX.length() - 11), "5", "count 4 -> 5");
        check.program("6 loops", SIX, "6", "count 4 -> 6", "variable 5 -> 1");
        check.program(title, SIX + "\n7FORG=4TO9\n8PRINT1", STATE, "count 4 -> 6", "variable 6 -> 4", "at -> 7", "count 3 -> 0", "count 7 -> 1");
        check.program(title + " that is OVER is none", SIX + "\n7FORG=10TO9\n8NEXTG\n9PRINT1", "8", "count 4 -> 6", "variable 6 -> 10");
        check.program(title + " that is OVER, and no NEXT", SIX + "\n7FORG=10TO9", STATE, "count 4 -> 6", "variable 6 -> 10");
        for (int k = 0; k < 6; k++) {
            check.program("a loop of the same VARIABLE is gone with all that began after it", SIX + "\n7FOR" + "ABCDEF".charAt(k) + "=3TO9", "7",
                    "count 4 -> " + (k + 1), "variable " + k + " -> 3");
            check.program("also if it is OVER", SIX + "\n7FOR" + "ABCDEF".charAt(k) + "=10TO9\n8NEXT" + "ABCDEF".charAt(k), "7",
                    "count 4 -> " + k, "variable " + k + " -> 10", "at -> 7");
            check.program("also if it is OVER and throws", SIX + "\n7FOR" + "ABCDEF".charAt(k) + "=10TO9", STATE,
                    "count 4 -> " + k, "variable " + k + " -> 10", "at -> 7");
        }
    }

    private static void over(Check check) {
        String title = "OVER: greater, or less for a STEP below 0";
        String[] firsts = {"4.999", "5", "5.001"};
        String[] steps = {"", "STEP1", "STEP0.001", "STEP0", "STEP-0", "STEP-0.001", "STEP-1"};
        for (int k = 0; k < firsts.length; k++) {
            for (String step : steps) {
                boolean isDown = step.endsWith("-1") || step.endsWith("-0.001");
                boolean isOver = isDown ? k == 0 : k == 2;
                check.program(title + ": " + firsts[k] + step, "10FORI=" + firsts[k] + "TO5" + step + "\n20PRINT1\n25END\n30NEXTI\n40PRINT2",
                        isOver ? "2" : "3", "printed 0 -> " + (isOver ? 2 : 1), "count 3 -> 1", "count 4 -> " + (isOver ? 0 : 1),
                        "variable 8 -> " + firsts[k], "at -> " + (isOver ? 40 : 25));
                check.program(title + ", without a NEXT: " + firsts[k] + step, "10FORI=" + firsts[k] + "TO5" + step + "\n20PRINT1",
                        isOver ? STATE : "2", "count 3 -> " + (isOver ? 0 : 1), "count 4 -> " + (isOver ? 0 : 1), "variable 8 -> " + firsts[k]);
            }
        }
        check.program("no NEXT behind a FOR that is OVER", "10GOTO30\n20NEXTI\n30FORI=2TO1\n40NEXTJ", STATE, "at -> 30", "count 2 -> 2",
                "variable 8 -> 2", "count 4 -> 0");
        check.program("the NEXT after the FOR, not the one before", "10GOTO30\n20NEXTI\n30FORI=2TO1\n40NEXTI\n50PRINT50", "3", "printed 0 -> 50", "at -> 50");
        check.program("the first NEXT of this VARIABLE after the FOR", "10GOTO40\n20NEXTI\n30PRINT30\n40FORI=2TO1\n50PRINT50\n60NEXTJ\n70PRINT70\n80NEXTI\n"
                + "90PRINT90\n100END\n110NEXTI\n120PRINT120", "4", "printed 0 -> 90", "count 3 -> 1");
        check.program("the line behind the FOR is its NEXT", "10FORI=2TO1\n20NEXTI\n30PRINT30", "2", "printed 0 -> 30");
        check.program("no line behind its NEXT", "10FORI=2TO1\n20PRINT1\n30NEXTI", "1", "at -> 10", "count 3 -> 0", "count 7 -> 0");
        check.program("STEP 0 and OVER already", "10FORI=2TO1STEP0\n20NEXTI", "1");
    }

    private static void nexts(Check check) {
        String title = "NEXT: there is none of it";
        check.program(title, "10NEXTI", STATE, "at -> 10", "variable 8 -> 0", "count 7 -> 1");
        check.program(title + ": the others stay", "10FORI=1TO2\n20FORJ=1TO2\n30NEXTK", STATE, "count 4 -> 2", "variable 10 -> 0");
        check.program(title + ": it ended", "10FORI=1TO1\n20NEXTI\n30NEXTI", STATE, "at -> 30", "count 2 -> 3", "variable 8 -> 2");
        check.program(title + ": it is gone", "10FORI=1TO1\n20FORJ=1TO2\n30NEXTI\n40NEXTJ", STATE, "at -> 40", "variable 9 -> 1", "count 4 -> 0");
        check.program(title + ": it was OVER", "10FORI=2TO1\n20NEXTI\n30NEXTI", STATE, "at -> 30", "count 2 -> 2", "variable 8 -> 2");
        check.program("is it not OVER", "10FORI=1TO3\n20NEXTI", "4", "variable 8 -> 4", "count 2 -> 4");
        check.program("is it not OVER, by a little", "10FORI=1TO2.999\n20NEXTI", "3", "variable 8 -> 3", "count 4 -> 0");
        check.program("is it not OVER, just", "10FORI=1TO2STEP0.5\n20NEXTI", "4", "variable 8 -> 2.5");
        check.program("is it not OVER, downwards", "10FORI=3TO1STEP-1\n20NEXTI", "4", "variable 8 -> 0");
        check.program("is it not OVER, downwards by a little", "10FORI=3TO1.001STEP-1\n20NEXTI", "3", "variable 8 -> 1");
        check.program("the line behind the FOR is due", "10GOTO30\n20NEXTI\n25END\n30FORI=1TO2\n40GOTO20", "7", "variable 8 -> 3", "at -> 25");
        check.program("no line behind the NEXT", "10FORI=1TO1\n20NEXTI", "2", "at -> 20", "count 4 -> 0");
        for (int k = 0; k < 6; k++) {
            check.program("loops that began after the VARIABLE's are gone", SIX.replace("TO9", "TO1") + "\n7NEXT" + "ABCDEF".charAt(k), "7",
                    "count 4 -> " + k, "variable " + k + " -> 2", "variable " + (k == 5 ? 4 : 5) + " -> 1", "at -> 7");
        }
        title = "it grows by the STEP (a result)";
        String grows = "10FORI=0TO8^20STEP%\n20IFI>0THEN50\n25FORJ=1TO2\n30LETI=8^20-&\n40NEXTI\n45END\n50REM";
        check.program(title, grows.replace("%", "128").replace("&", "128"), "7", "variable 8 -> " + LARGEST, "count 4 -> 1", "at -> 50");
        check.program(title, grows.replace("%", "128").replace("&", "0"), "7", "variable 8 -> " + LARGEST, "count 4 -> 1");
        check.program(title, grows.replace("%", "256").replace("&", "0"), ARITHMETIC, "variable 8 -> " + LARGEST, "count 4 -> 1", "at -> 40");
        String falls = "10FORI=0TO-8^20STEP-%\n20IFI<0THEN50\n25FORJ=1TO2\n30LETI=-8^20+&\n40NEXTI\n45END\n50REM";
        check.program(title, falls.replace("%", "128").replace("&", "128"), "7", "variable 8 -> " + -LARGEST, "count 4 -> 1", "at -> 50");
        check.program(title, falls.replace("%", "256").replace("&", "0"), ARITHMETIC, "variable 8 -> " + -LARGEST, "count 4 -> 1", "at -> 40");
    }

    private static void relations(Check check) {
        String title = "IF e r e: ";
        String[] lefts = {"4.999", "5", "5.001"};
        String[] relations = {"<", "<=", "=", ">=", ">", "<>"};
        String[] hold = {"100", "110", "010", "011", "001", "101"};
        for (int k = 0; k < 3; k++) {
            for (int r = 0; r < relations.length; r++) {
                boolean isSo = hold[r].charAt(k) == '1';
                check.program(title + lefts[k] + relations[r] + "5", "10IF" + lefts[k] + relations[r] + "5THEN30\n20PRINT20\n30PRINT30",
                        isSo ? "2" : "3", "printed 0 -> " + (isSo ? 30 : 20));
            }
        }
        check.program(title + "0 and -0", "10IF0=-0THEN30\n20PRINT20\n30PRINT30", "2");
        check.program(title + "2^60 and the double below it", "10IF8^20>8^20-128THEN30\n20PRINT20\n30PRINT30", "2");
        check.program(title + "2^60 and the double below it", "10IF8^20=8^20-64THEN30\n20PRINT20\n30PRINT30", "2");
    }

    private static void orderOfFor(Check check) {
        check.program("FOR: the first is worked out first", "10FORI=1/0TOFNA(1)STEPP(1,1)", ARITHMETIC, "count 4 -> 0");
        check.program("FOR: the limit second", "10FORI=1TOFNA(1)STEPP(1,1)", MISSING, "variable 8 -> 0");
        check.program("FOR: the STEP third", "10FORI=1TO2STEPP(1,1)", BOUNDS, "variable 8 -> 0");
        check.program("FOR: also if it would be OVER", "10FORI=2TO1STEP1/0\n20NEXTI", ARITHMETIC, "variable 8 -> 0");
        check.program("FOR: all three before the VARIABLE changes", "10LETI=2\n20FORI=I*2TOI+4STEPI-1\n30NEXTI", "5", "variable 8 -> 7");
        check.program("IF: both, the left first", "10IF1/0=FNA(1)THEN99", ARITHMETIC);
        check.program("IF: both, then n", "10IF1=FNA(1)THEN99", MISSING);
        check.program("IF: both, then n", "10IF1=P(1,1)THEN99", BOUNDS);
    }

    private static void steps(Check check) {
        String title = "a 301st STEP";
        String count = "1LETA=A+1\n2IFA<149THEN1\n";
        check.program("299 STEPS", count + "3REM", "299", "count 2 -> 299", "count 7 -> 0", "at -> 3");
        check.program("300 STEPS", count + "3REM\n4REM", "300", "count 2 -> 300", "count 7 -> 0", "at -> 4");
        check.program(title, count + "3REM\n4REM\n5LETB=1", STATE, "count 2 -> 300", "count 7 -> 1", "at -> 4", "variable 1 -> 0");
        check.program("the 300th is an END", count + "3REM\n4END\n5REM", "300", "count 7 -> 0", "at -> 4");
        check.program("the 300th throws its own", count + "3REM\n4PRINT1/0\n5REM", ARITHMETIC, "count 2 -> 300", "at -> 4");
        check.program(title + " would throw another", count + "3REM\n4REM\n5PRINT1/0", STATE, "at -> 4");
        check.program(title + " would be an END", count + "3REM\n4REM\n5END", STATE, "at -> 4", "count 2 -> 300");
        check.program("the 300th goes to no line", count + "3REM\n4GOTO9", MISSING, "at -> 4", "count 2 -> 300");
        check.program(title + " would be a RETURN to no line", count + "3GOTO5\n4RETURN\n5GOSUB4", STATE, "count 2 -> 300", "count 5 -> 1", "at -> 5");
        check.program("the 300th is a RETURN to no line", "1LETA=A+1\n2IFA<148THEN1\n3REM\n4GOTO6\n5RETURN\n6GOSUB5", "300", "count 5 -> 0", "count 7 -> 0", "at -> 5");
        check.program("STEPS are counted from 0 in each RUN", "10LETA=A+1\n20IFA<150THEN10", "300", "run -> 300", "count 2 -> 300", "count 7 -> 0");
        check.program("what a RUN that throws did before stays", "10LETA=A+1\n20PRINTA\n30GOTO10", STATE, "variable 0 -> 100", "count 3 -> 100",
                "printed 39 -> 40", "at -> 30", "run -> " + STATE, "count 7 -> 2", "variable 0 -> 100");
    }

    private static void numbers(Check check) {
        String title = "at most the first 40 are kept";
        for (int total : new int[] {1, 2, 39, 40, 41, 42, 99}) {
            int kept = Math.min(total, 40);
            check.program(title, "10FORI=1TO" + total + "\n20PRINTI*1.5\n30NEXTI", "" + (1 + 2 * total), "count 3 -> " + total,
                    "printed 0 -> 1.5", "printed " + (kept - 1) + " -> " + kept * 1.5, "printed " + kept + " -> " + MISSING,
                    "printed " + total + " -> " + MISSING, "printed -1 -> " + MISSING);
        }
        check.program(title, "10REM", "1", "count 3 -> 0", "printed 0 -> " + MISSING);
        check.program("none of an earlier RUN", "10FORI=1TO41\n20PRINTI\n30NEXTI", "83", "> 10FORI=1TO2 -> 3", "run -> 5", "count 3 -> 2",
                "printed 1 -> 2", "printed 2 -> " + MISSING);
    }

    public static void main(String[] args) {
        Check check = new Check();
        noLines(check);
        linesNotThere(check);
        constants(check);
        choices(check);
        subroutines(check);
        loops(check);
        over(check);
        nexts(check);
        relations(check);
        orderOfFor(check);
        steps(check);
        numbers(check);
        check.finish();
    }
}
