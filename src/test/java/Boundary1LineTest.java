/** THE LINE, LINE NUMBERS and the numbers of the grammar: each at its boundary and one beyond it. */
public final class Boundary1LineTest {
    private static final String ARGUMENT = "IllegalArgumentException";

    private static void characters(Check check) {
        String title = "THE LINE holds characters 0 .. 127";
        for (int c = 0; c <= 127; c++) {
            check.play(title, "type 49 -> 1", "type " + c + " -> 2", "count 0 -> 2");
            check.rightLine(title, "1REM" + (char) c);
        }
        for (int c : new int[] {-1, 128, Integer.MIN_VALUE, Integer.MAX_VALUE, 255, 256 + 49}) {
            check.refused(title, Check.typed(""), "type " + c, ARGUMENT);
            check.refused(title, Check.typed("1END"), "type " + c, ARGUMENT);
        }
    }

    private static void lengths(Check check) {
        String title = "THE LINE holds at most 60 characters";
        String sixty = "7REM" + "X".repeat(56);
        check.play(title, Check.joined(Check.typed(sixty.substring(1)), "count 0 -> 59", "type 65 -> 60", "count 0 -> 60"));
        check.refused(title, Check.typed(sixty), "type 65", "IllegalStateException");
        check.refused(title, Check.typed(sixty), "type 32", "IllegalStateException");
        check.refused(title + ", blanks too", Check.typed(" ".repeat(60)), "type 65", "IllegalStateException");
        check.refused(title + ", and the first named is thrown", Check.typed(sixty), "type 128", ARGUMENT);
        check.refused(title + ", and the first named is thrown", Check.typed(sixty), "type -1", ARGUMENT);
        check.play(title + ", and again when it was taken", Check.joined(Check.typed(sixty), "enter -> 1", "count 0 -> 0",
                "type 56 -> 1", "type 69 -> 2", "type 78 -> 3", "type 68 -> 4", "enter -> 2"));
        String sum = "10LETZ=1" + "+1".repeat(26);
        check.play(title + ", all of which count", "> " + sum + " -> 1", "run -> 1", "variable 25 -> 27");
        check.wrongLine(title + ", all of which count", sum.substring(0, 59), 59);
        check.wrongLine(title + ", all of which count", sum.substring(0, 59) + "*", 59);
        check.wrongLine(title + ", all of which count", "10LETZ=1" + "+1".repeat(25) + "+(", 60);
    }

    private static void blanks(Check check) {
        String title = "blanks in THE LINE mean nothing and are left out first";
        String text = "10LETP(1,2)=INT(-12.75)";
        for (int k = 0; k <= text.length(); k++) {
            check.play(title, "> 5 DIM P(1,2) -> 1", "> " + text.substring(0, k) + "  " + text.substring(k) + " -> 2",
                    "run -> 2", "element 0 1 2 -> -13");
        }
        String wrong = "10LETA=1.2345";
        for (int k = 0; k <= wrong.length(); k++) {
            check.wrongLine("places count without blanks", wrong.substring(0, k) + "  " + wrong.substring(k), 12);
        }
        check.wrongLine("its length counts without blanks", " 1 0 LET A = ", 7);
        check.wrongLine("blanks alone", " ", 0);
        check.wrongLine("blanks alone", " ".repeat(60), 0);
        for (char c = 0; c <= 127; c++) {
            if (c != ' ') {
                check.wrongLine("no blank: character " + (int) c, "10E" + c + "ND", c == 'N' ? 4 : 3);
            }
        }
    }

    private static void numbers(Check check) {
        String title = "a LINE NUMBER is 1 to 3 digits, with a value of 1 .. 999";
        String[] right = {"1", "9", "10", "99", "100", "999", "01", "001", "099"};
        for (String number : right) {
            check.play(title, "> " + number + "END -> 1", "count 8 -> " + Integer.parseInt(number),
                    "count 9 -> " + Integer.parseInt(number), "run -> 1", "at -> " + Integer.parseInt(number),
                    "> " + number + " -> 0");
        }
        check.wrongLine(title, "", 0);
        check.wrongLine(title, "END", 0);
        check.wrongLine(title, "0", 1);
        check.wrongLine(title, "00", 2);
        check.wrongLine(title, "000", 2);
        check.wrongLine(title, "0000", 2);
        check.wrongLine(title, "0END", 1);
        check.wrongLine(title, "00END", 2);
        check.wrongLine(title, "000END", 2);
        check.wrongLine(title, "1000", 3);
        check.wrongLine(title, "9999END", 3);
        check.wrongLine(title, "0001END", 2);
        check.wrongLine(title, "0010END", 3);
        check.wrongLine(title, "-1END", 0);
        for (char c = 0; c <= 127; c++) {
            if (c != ' ' && (c < '0' || c > '9')) {
                check.wrongLine("no digit: character " + (int) c, c + "END", 0);
            }
        }
    }

    private static void targets(Check check) {
        String title = "n is a LINE NUMBER";
        for (String begin : new String[] {"1GOTO", "1GOSUB", "1IF1=1THEN", "1ON1GOTO", "1ON1GOTO2,"}) {
            int length = begin.length();
            for (String n : new String[] {"1", "9", "10", "99", "100", "999", "001", "010"}) {
                check.rightLine(title, begin + n);
            }
            check.wrongLine(title, begin, length);
            check.wrongLine(title, begin + "A", length);
            check.wrongLine(title, begin + "-1", length);
            check.wrongLine(title, begin + "0", length + 1);
            check.wrongLine(title, begin + "00", length + 2);
            check.wrongLine(title, begin + "000", length + 2);
            check.wrongLine(title, begin + "0,1", length + 1);
            check.wrongLine(title, begin + "1000", length + 3);
            check.wrongLine(title, begin + "9999", length + 3);
        }
        check.program(title + ", by its value", "1 GOTO 020\n20 GOSUB 030\n30 IF 1=1 THEN 040\n40 ON 1 GOTO 050\n50 END", "5", "at -> 50");
    }

    private static void lists(Check check) {
        check.wrongLine("ON with no n", "1ONAGOTO", 8);
        check.rightLine("ON with 1 n", "1ONAGOTO1");
        check.rightLine("ON with 4 n", "1ONAGOTO1,20,300,4");
        check.wrongLine("ON with a 5th n", "1ONAGOTO1,20,300,4,", 18);
        check.wrongLine("ON with a 5th n", "1ONAGOTO1,2,3,4,5", 15);
        check.wrongLine("ON with a , and no n", "1ONAGOTO1,2,3,", 14);
        check.wrongLine("DATA with no c", "1DATA", 5);
        check.rightLine("DATA with 1 c", "1DATA1");
        check.rightLine("DATA with 6 c's", "1DATA1,-20,3.5,-4.25,5.125,-123456.789");
        check.wrongLine("DATA with a 7th c", "1DATA1,2,3,4,5,6,", 16);
        check.wrongLine("DATA with a 7th c", "1DATA1,2,3,4,5,6,7", 16);
        check.wrongLine("DATA with a , and no c", "1DATA1,2,3,4,5,", 15);
        for (char c = 0; c <= 127; c++) {
            boolean isSize = c >= '1' && c <= '6';
            expectLine(check, "k is one digit 1 .. 6", "1DIMP(" + c + ",1)", isSize ? -1 : 6);
            expectLine(check, "k is one digit 1 .. 6", "1DIMP(1," + c + ")", isSize ? -1 : 8);
        }
        check.wrongLine("k is one digit 1 .. 6", "1DIMP(01,1)", 6);
        check.wrongLine("k is one digit 1 .. 6", "1DIMP(11,1)", 7);
        check.wrongLine("k is one digit 1 .. 6", "1DIMP(1,11)", 9);
        check.wrongLine("DIM has two k", "1DIMP(1)", 7);
        check.wrongLine("DIM has two k", "1DIMP(1,2,3)", 9);
    }

    /** A line that is right for a place of -1, and else wrong at this place; blanks are not counted. */
    private static void expectLine(Check check, String title, String text, int place) {
        if (place < 0) {
            check.rightLine(title, text);
        } else {
            check.wrongLine(title, text, place);
        }
    }

    private static void letters(Check check) {
        for (char c = 0; c <= 127; c++) {
            boolean isMatrix = c == 'P' || c == 'Q' || c == 'R';
            boolean isVariable = "ABCDEFGHIJKLMNOSTUVWXYZ".indexOf(c) >= 0;
            boolean isFunction = c == 'A' || c == 'B' || c == 'C';
            boolean isDigit = c >= '0' && c <= '9';
            String title = "s is a letter A .. Z but P, Q, R: character " + (int) c;
            expectLine(check, title, "1LET" + c + "=1", isVariable ? -1 : isMatrix ? 5 : 4);
            expectLine(check, title, "1FOR" + c + "=1TO2", isVariable ? -1 : 4);
            expectLine(check, title, "1NEXT" + c, isVariable ? -1 : 5);
            expectLine(check, title, "1READ" + c, isVariable ? -1 : isMatrix ? 6 : 5);
            expectLine(check, title, "1DEFFNA(" + c + ")=1", isVariable ? -1 : 8);
            expectLine(check, title, "1PRINT" + c,
                    isVariable || isDigit ? -1 : isMatrix || c == '(' || c == '-' ? 7 : 6);
            title = "m is P, Q or R: character " + (int) c;
            expectLine(check, title, "1LET" + c + "(1,1)=1", isMatrix ? -1 : isVariable ? 5 : 4);
            expectLine(check, title, "1DIM" + c + "(1,1)", isMatrix ? -1 : 4);
            expectLine(check, title, "1MAT" + c + "=ZER", isMatrix ? -1 : 4);
            expectLine(check, title, "1MATP=" + c + "+P", isMatrix ? -1 : "ZCIT(".indexOf(c) >= 0 ? 7 : 6);
            expectLine(check, title, "1MATP=P*" + c, isMatrix ? -1 : 8);
            expectLine(check, title, "1MATP=TRN(" + c + ")", isMatrix ? -1 : 10);
            expectLine(check, title, "1MATP=(1)*" + c, isMatrix ? -1 : 10);
            title = "f is one of A, B, C: character " + (int) c;
            expectLine(check, title, "1DEFFN" + c + "(X)=1", isFunction ? -1 : 6);
            expectLine(check, title, "1PRINTFN" + c + "(1)", isFunction ? -1 : 8);
        }
    }

    private static void relations(Check check) {
        String title = "r is one of = < > <= >= <>";
        for (String r : new String[] {"=", "<", ">", "<=", ">=", "<>"}) {
            check.rightLine(title, "1IFA" + r + "BTHEN1");
            check.rightLine(title, "1IFA" + r + "-BTHEN1");
        }
        check.wrongLine(title, "1IFATHEN1", 4);
        check.wrongLine(title, "1IFA==BTHEN1", 5);
        check.wrongLine(title, "1IFA=<BTHEN1", 5);
        check.wrongLine(title, "1IFA=>BTHEN1", 5);
        check.wrongLine(title, "1IFA<<BTHEN1", 5);
        check.wrongLine(title, "1IFA><BTHEN1", 5);
        check.wrongLine(title, "1IFA>>BTHEN1", 5);
        check.wrongLine(title, "1IFA<==BTHEN1", 6);
        check.wrongLine(title, "1IFA>==BTHEN1", 6);
        check.wrongLine(title, "1IFA<>=BTHEN1", 6);
        check.wrongLine(title, "1IFA<=>BTHEN1", 6);
    }

    private static void numerals(Check check) {
        String title = "a NUMERAL is 1 to 6 digits, perhaps a point and 1 to 3 digits";
        String[] right = {"0", "7", "000007", "100000", "999999", "0.1", "0.12", "0.123", "0.001", "999999.9",
            "999999.99", "999999.999", "000000.000", "1.000"};
        for (String numeral : right) {
            check.value(title, numeral, numeral);
            check.value(title, "-" + numeral, "-" + numeral);
            check.program(title, "1DATA" + numeral + ",-" + numeral + "\n2READA\n3READB", "3", "variable 0 -> " + numeral,
                    "variable 1 -> -" + numeral);
        }
        for (String begin : new String[] {"1PRINT", "1DATA", "1DATA-", "1LETP(1,", "1DATA1,2,", "1FORA=1TO"}) {
            int length = begin.length();
            check.wrongLine(title, begin + ".5", length);
            check.wrongLine(title, begin + "1234567", length + 6);
            check.wrongLine(title, begin + "0000000", length + 6);
            check.wrongLine(title, begin + "1234567.5", length + 6);
            check.wrongLine(title, begin + "1.", length + 2);
            check.wrongLine(title, begin + "1.X", length + 2);
            check.wrongLine(title, begin + "1..5", length + 2);
            check.wrongLine(title, begin + "123456.", length + 7);
            check.wrongLine(title, begin + "1.1234", length + 5);
            check.wrongLine(title, begin + "123456.0000", length + 10);
            check.wrongLine(title, begin + "1.5.5", length + 3);
        }
        check.wrongLine("c is a NUMERAL, or - and one", "1DATA--1", 6);
        check.wrongLine("c is a NUMERAL, or - and one", "1DATA+1", 5);
        check.wrongLine("c is a NUMERAL, or - and one", "1DATAA", 5);
        check.wrongLine("c is a NUMERAL, or - and one", "1DATA(1)", 5);
        check.wrongLine("c is a NUMERAL, or - and one", "1DATA1+1", 6);
    }

    private static void operators(Check check) {
        check.rightLine("e: a TERM, or - TERM", "1PRINT-A");
        check.wrongLine("e: a TERM, or - TERM", "1PRINT+A", 6);
        check.wrongLine("e: a TERM, or - TERM", "1PRINT--A", 7);
        check.rightLine("e: a TERM, or - TERM", "1PRINT-(-A)");
        check.wrongLine("then any number of + TERM and - TERM", "1PRINTA+-A", 8);
        check.wrongLine("then any number of + TERM and - TERM", "1PRINTA--A", 8);
        check.wrongLine("then any number of * POWER and / POWER", "1PRINTA*-A", 8);
        check.wrongLine("then any number of * POWER and / POWER", "1PRINTA/-A", 8);
        check.wrongLine("then any number of ^ PART", "1PRINTA^-A", 8);
        check.wrongLine("then any number of ^ PART", "1PRINTA^", 8);
        check.wrongLine("then any number of ^ PART", "1PRINTA**A", 8);
        check.rightLine("any number", "1PRINTA+B-C+D-E*F/G*H/I^J^K^L-M+N");
    }

    private static void brackets(Check check) {
        String title = "at most 6 brackets are open at a time";
        String[] opens = {"(", "ABS(", "INT(", "SGN(", "FNA(", "P(1,", "P("};
        for (String open : opens) {
            String close = open.equals("P(") ? ",1)" : ")";
            int named = open.equals("(") || open.startsWith("P") ? 0 : 1;
            check.rightLine(title, "1PRINT" + "(".repeat(5) + open + "1" + close + ")".repeat(5));
            check.wrongLine(title, "1PRINT" + "(".repeat(6) + open + "1" + close + ")".repeat(6), 12 + named);
            check.rightLine(title, "1PRINT" + open.repeat(6) + "1" + close.repeat(6));
            check.wrongLine(title, "1PRINT" + open.repeat(6) + open + "1", 6 + 6 * open.length() + named);
            check.rightLine(title, "1LETP(((((" + open + "1" + close + "))))" + ",1)=2");
            check.wrongLine(title, "1LETP((((((" + open + "1" + close, 11 + named);
            check.rightLine(title, "1LETP(1,((((" + open + "1" + close + ")))))=2");
            check.wrongLine(title, "1LETP(1,(((((" + open + "1" + close, 13 + named);
            check.rightLine(title, "1READP(((((" + open + "1" + close + "))))" + ",1)");
            check.wrongLine(title, "1READP((((((" + open + "1" + close, 12 + named);
            check.rightLine(title, "1MATP=(((((" + open + "1" + close + ")))))*P");
            check.wrongLine(title, "1MATP=((((((" + open + "1" + close, 12 + named);
            check.rightLine(title, "1DEFFNA(X)=(((((" + open + "1" + close + ")))))");
            check.wrongLine(title, "1DEFFNA(X)=((((((" + open + "1" + close, 17 + named);
        }
        String six = "((((((1))))))";
        check.value(title, six + "+" + six + "*" + six, "2");
        check.value(title, "(1)+(1)+(1)+(1)+(1)+(1)+(1)+(1)+(1)+(1)", "10");
        check.wrongLine(title, "1PRINT" + six + "+(((((((1", 26);
        check.rightLine(title, "1IF" + six + "=" + six + "THEN1");
        check.wrongLine(title, "1IF" + six + "=(((((((1", 23);
        check.rightLine(title, "1FORA=" + six + "TO" + six + "STEP" + six);
        check.wrongLine(title, "1FORA=" + six + "TO(((((((", 27);
        check.rightLine(title, "1ON" + six + "GOTO1");
        check.wrongLine(title, "1ON(((((((1", 9);
        check.wrongLine("a bracket that is not closed", "1PRINT((((((1)))))", 18);
        check.wrongLine("a bracket that is not open", "1PRINT((((((1)))))))", 19);
    }

    private static void longerThanTheLine(Check check) {
        check.wrongLine("of any length", "1PRINT" + "A+".repeat(27), 60);
        check.wrongLine("of any length", "1PRINT" + "A+".repeat(24) + "((((((", 60);
        check.wrongLine("of any length", "1PRINT" + "A+".repeat(23) + "A+((((((", 60);
        check.wrongLine("of any length", "1PRINT" + "A+".repeat(23) + "+(((((((", 52);
        check.wrongLine("of any length", "1LETP(" + "A+".repeat(27), 60);
        check.wrongLine("the last of 60 characters", "1PRINT" + "A+".repeat(23) + "B+((((()", 59);
        check.rightLine("REM and anything", "1REM");
        check.rightLine("REM and anything", "1REM" + "(".repeat(56));
        check.wrongLine("REM and anything", "1RE", 3);
        check.wrongLine("nothing behind the end", "1RETURN1", 7);
        check.wrongLine("nothing behind the end", "1RESTOREA", 8);
        check.wrongLine("nothing behind the end", "1END.", 4);
        check.wrongLine("nothing behind the end", "1MATP=IDN(", 9);
        check.wrongLine("nothing behind the end", "1MATP=P*P*P", 9);
    }

    /** A letter is a VARIABLE unless it begins a name; ON S GOTO has the S and the G of SGN side by side. */
    private static void names(Check check) {
        for (String name : new String[] {"ABS", "INT", "SGN", "FNA"}) {
            check.rightLine("a name", "1PRINT" + name + "(" + name.charAt(0) + ")");
            check.rightLine("a VARIABLE", "1PRINT" + name.charAt(0));
            check.wrongLine("a name not at its end", "1PRINT" + name.substring(0, 2), 8);
            check.wrongLine("a name not at its end", "1PRINT" + name.substring(0, 2) + ")", 8);
            check.wrongLine("a name without its bracket", "1PRINT" + name, 9);
            check.wrongLine("a name without its bracket", "1PRINT" + name + "1", 9);
            check.wrongLine("a name without its e", "1PRINT" + name + "()", 10);
            check.wrongLine("a name with two e", "1PRINT" + name + "(1,1)", 11);
        }
        check.rightLine("ON S GOTO", "1ONSGOTO1");
        check.rightLine("ON SGN ( S ) GOTO", "1ONSGN(S)GOTO1");
        check.rightLine("ON ( S ) + S GOTO", "1ON(S)+SGOTO1");
        check.wrongLine("ON SG, which SGN and S GOTO go on from", "1ONSG", 5);
        check.wrongLine("ON SG, which SGN and S GOTO go on from", "1ONSGX", 5);
        check.wrongLine("ON S GO, with no TO", "1ONSGOX", 6);
        check.wrongLine("ON SGN, with no bracket", "1ONSGNX", 6);
        check.wrongLine("SG that S GOTO can not go on from", "1ON(SGO", 6);
        check.wrongLine("SG that S GOTO can not go on from", "1PRINTSGO", 8);
        check.wrongLine("SG that nothing can go on from", "1ON((((((SG", 10);
    }

    /** The row that the last line was taken apart in, and the characters behind the end of THE LINE, are used again. */
    private static void linesAfterOthers(Check check) {
        String title = "nothing is left of THE LINE before";
        check.play(title, "> 10PRINTABX -> " + ARGUMENT, "> 10PRINTA -> 1", "run -> 1");
        check.play(title, "> 10ENDX -> " + ARGUMENT, "> 10EN -> " + ARGUMENT, "errorAt -> 4", "> 10 -> NoSuchElementException");
        check.play(title, "> 10PRINT1+2 -> 1", "> 10PRINT1+ -> " + ARGUMENT, "errorAt -> 9", "> 10PRINT1 -> 1", "run -> 1", "printed 0 -> 1");
        check.play(title, "> 10PRINT((((((1+ -> " + ARGUMENT, "errorAt -> 15", "> 10PRINT((((((1)))))) -> 1", "> 20PRINT(((((((1 -> " + ARGUMENT,
                "errorAt -> 13", "> 20PRINT((((((2)))))) -> 2", "run -> 2", "printed 1 -> 2");
        check.play(title, "> 10ON1GOTO1,2,3,4, -> " + ARGUMENT, "> 10ON2GOTO20 -> 1", "run -> " + ARGUMENT, "> 20DATA1,2,3,X -> " + ARGUMENT,
                "> 10DATA5 -> 1", "run -> 1", "count 6 -> 1");
        check.play(title, "> 10DATA123456.789,- -> " + ARGUMENT, "> 10DATA7 -> 1", "> 20READA -> 2", "run -> 2", "variable 0 -> 7", "count 6 -> 0");
        check.play(title, "> 10FORI=1TO9STEP-1 -> 1", "> 20END -> 2", "> 10FORI=1TO9 -> 2", "run -> 2", "count 4 -> 1", "variable 8 -> 1");
        check.play(title, "> 10LETP(1,1)=X -> 1", "> 10LETA=3 -> 1", "> 20READP(1,1) -> 2", "> 20READB -> 2", "> 30DATA4 -> 3", "run -> 3",
                "variable 0 -> 3", "variable 1 -> 4");
    }

    public static void main(String[] args) {
        Check check = new Check();
        names(check);
        linesAfterOthers(check);
        characters(check);
        lengths(check);
        blanks(check);
        numbers(check);
        targets(check);
        lists(check);
        letters(check);
        relations(check);
        numerals(check);
        operators(check);
        brackets(check);
        longerThanTheLine(check);
        check.finish();
    }
}
