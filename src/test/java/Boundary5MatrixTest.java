/** DIM and MAT: sizes that fit and that do not, MATRICES that are not there, results that are too large. */
public final class Boundary5MatrixTest {
    private static final String ARITHMETIC = "ArithmeticException";
    private static final String BOUNDS = "IndexOutOfBoundsException";
    private static final String MISSING = "NoSuchElementException";
    private static final String UNSUPPORTED = "UnsupportedOperationException";
    private static final double LARGEST = 1152921504606846976.0;
    private static final String[] NAMES = {"P", "Q", "R"};

    /** The steps that show that MATRIX m has just so many rows and columns. */
    private static String[] sizeOf(int m, int rows, int columns) {
        return new String[] {
            "element " + m + " 1 0 -> " + BOUNDS, "element " + m + " 0 1 -> " + BOUNDS,
            "element " + m + " " + (rows + 1) + " 1 -> " + BOUNDS, "element " + m + " 1 " + (columns + 1) + " -> " + BOUNDS,
            "element " + m + " " + (rows + 1) + " " + columns + " -> " + BOUNDS,
            "element " + m + " " + rows + " " + (columns + 1) + " -> " + BOUNDS};
    }

    /** The steps that show that each element of MATRIX m is the same. */
    private static String[] filledWith(int m, int rows, int columns, String value) {
        String[] steps = new String[rows * columns];
        for (int i = 1; i <= rows; i++) {
            for (int j = 1; j <= columns; j++) {
                steps[(i - 1) * columns + j - 1] = "element " + m + " " + i + " " + j + " -> " + value;
            }
        }
        return Check.joined(sizeOf(m, rows, columns), steps);
    }

    private static String dim(int line, String m, int rows, int columns) {
        return line + "DIM" + m + "(" + rows + "," + columns + ")\n";
    }

    private static void oneMatrix(Check check) {
        for (int rows = 1; rows <= 6; rows++) {
            for (int columns = 1; columns <= 6; columns++) {
                String dim = dim(10, "Q", rows, columns);
                check.program("DIM: so many rows and columns, all 0", dim, "1", filledWith(1, rows, columns, "0"));
                check.program("DIM once more", "5DIMQ(3,3)\n6MATQ=CON\n" + dim, "3", filledWith(1, rows, columns, "0"));
                check.program("CON: 1", dim + "20MATQ=CON", "2", filledWith(1, rows, columns, "1"));
                check.program("ZER: 0", dim + "20MATQ=CON\n30MATQ=ZER", "3", filledWith(1, rows, columns, "0"));
                check.program("ZER: 0, behind a MAT of another size", "5DIMP(4,5)\n" + dim + "20LETQ(" + rows + "," + columns + ")=3\n30MATP=CON\n40MATQ=ZER", "5",
                        filledWith(1, rows, columns, "0"));
                check.program("CON: 1, behind a MAT of another size", "5DIMP(4,5)\n" + dim + "30MATP=ZER\n40MATQ=CON", "4", filledWith(1, rows, columns, "1"));
                check.program("IDN: square", dim + "20MATQ=CON\n30MATQ=IDN\n40REM", rows == columns ? "4" : UNSUPPORTED,
                        rows == columns ? unit(rows) : filledWith(1, rows, columns, "1"));
                check.program("m", "5DIMP(2,3)\n" + dim + "20MATQ=CON\n30MATP=Q", "4", filledWith(0, rows, columns, "1"));
                check.program("TRN with rows and columns changed", "5DIMP(2,3)\n" + dim + "20MATQ=CON\n30LETQ(1," + columns + ")=7\n40MATP=TRN(Q)", "5",
                        Check.joined(sizeOf(0, columns, rows), "element 0 " + columns + " 1 -> 7", "element 0 1 " + rows + " -> "
                                + (rows == 1 && columns == 1 ? 7 : 1)));
                check.program("TRN of the first itself", dim + "20MATQ=CON\n30LETQ(1," + columns + ")=7\n40MATQ=TRN(Q)", "4",
                        Check.joined(sizeOf(1, columns, rows), "element 1 " + columns + " 1 -> 7"));
                check.program("( e ) times each", "5DIMP(2,3)\n" + dim + "20MATQ=CON\n30MATP=(-2.5)*Q", "4", filledWith(0, rows, columns, "-2.5"));
            }
        }
    }

    private static String[] unit(int rows) {
        String[] steps = filledWith(1, rows, rows, "0");
        for (int i = 1; i <= rows; i++) {
            for (int k = 0; k < steps.length; k++) {
                if (steps[k].startsWith("element 1 " + i + " " + i + " ")) {
                    steps[k] = "element 1 " + i + " " + i + " -> 1";
                }
            }
        }
        return steps;
    }

    private static void twoMatrices(Check check) {
        int[] some = {1, 2, 3, 6};
        for (int a : some) {
            for (int b : some) {
                for (int c : some) {
                    for (int d : some) {
                        String lines = dim(10, "P", a, b) + dim(20, "Q", c, d) + "30MATP=CON\n40MATQ=CON\n50DIMR(2,3)\n60MATR=CON\n";
                        boolean isSame = a == c && b == d;
                        boolean isChain = b == c;
                        expect(check, "m + m", lines + "70MATR=P+Q", isSame, a, b, "2");
                        expect(check, "m - m", lines + "70MATR=P-Q", isSame, a, b, "0");
                        expect(check, "m * m", lines + "70MATR=P*Q", isChain, a, d, "" + b);
                    }
                }
            }
        }
    }

    /** What R is at the end, which was 2 by 3 and all 1 before. */
    private static void expect(Check check, String title, String lines, boolean fits, int rows, int columns, String value) {
        check.program(title + (fits ? ": sizes that fit" : ": sizes that do not fit"), lines, fits ? "7" : UNSUPPORTED,
                fits ? filledWith(2, rows, columns, value) : filledWith(2, 2, 3, "1"));
    }

    private static void inPlace(Check check) {
        String lines = "10DIMP(2,2)\n20LETP(1,1)=1\n30LETP(1,2)=2\n40LETP(2,1)=3\n50LETP(2,2)=4\n";
        check.program("the first on both sides", lines + "60MATP=P*P", "6", "element 0 1 1 -> 7", "element 0 1 2 -> 10",
                "element 0 2 1 -> 15", "element 0 2 2 -> 22");
        check.program("the first on both sides", lines + "60MATP=P+P", "6", "element 0 1 1 -> 2", "element 0 2 2 -> 8");
        check.program("the first on both sides", lines + "60MATP=P-P", "6", filledWith(0, 2, 2, "0"));
        check.program("the first on both sides", lines + "60MATP=P", "6", "element 0 2 1 -> 3", "element 0 1 2 -> 2");
        check.program("the first on both sides", lines + "60MATP=TRN(P)", "6", "element 0 2 1 -> 2", "element 0 1 2 -> 3");
        check.program("the first on both sides", lines + "60MATP=(P(2,2))*P", "6", "element 0 2 1 -> 12", "element 0 2 2 -> 16");
    }

    private static void notThere(Check check) {
        String title = "a MATRIX that is named behind = and not there";
        for (int first = 0; first < 3; first++) {
            for (int left = 0; left < 3; left++) {
                String begin = "20MAT" + NAMES[first] + "=";
                int other = (left + 1) % 3;
                refuse(check, title, dim(10, NAMES[other], 2, 2), begin + NAMES[left], left);
                refuse(check, title, dim(10, NAMES[other], 2, 2), begin + "TRN(" + NAMES[left] + ")", left);
                refuse(check, title, dim(10, NAMES[other], 2, 2), begin + "(2)*" + NAMES[left], left);
                refuse(check, title, dim(10, NAMES[other], 2, 2), begin + "(1/0)*" + NAMES[left], left);
                for (String operation : new String[] {"+", "-", "*"}) {
                    refuse(check, title, dim(10, NAMES[other], 2, 2), begin + NAMES[left] + operation + NAMES[other], left);
                    refuse(check, title, dim(10, NAMES[other], 2, 2), begin + NAMES[other] + operation + NAMES[left], left);
                    refuse(check, title, dim(10, NAMES[other], 2, 2), begin + NAMES[left] + operation + NAMES[left], left);
                    refuse(check, title, "10REM\n", begin + NAMES[left] + operation + NAMES[other], left);
                }
            }
            for (String form : new String[] {"ZER", "CON", "IDN"}) {
                String also = dim(10, NAMES[(first + 1) % 3], 2, 2) + dim(15, NAMES[(first + 2) % 3], 2, 2);
                refuse(check, "or for ZER, CON, IDN the first", also, "20MAT" + NAMES[first] + "=" + form, first);
            }
            check.program("the first need not be there", "10DIM" + NAMES[(first + 1) % 3] + "(1,2)\n20MAT" + NAMES[first] + "=" + NAMES[(first + 1) % 3],
                    "2", filledWith(first, 1, 2, "0"));
        }
        for (String m : NAMES) {
            check.program("a RUN begins with no MATRICES", "10DIM" + m + "(1,1)\n20MAT" + m + "=ZER", "2", "> 10REM -> 2", "run -> " + UNSUPPORTED);
        }
    }

    private static void refuse(Check check, String title, String dims, String mat, int absent) {
        check.program(title + ": " + mat, dims + mat, UNSUPPORTED, "at -> 20", "count 7 -> 1", "element " + absent + " 1 1 -> " + BOUNDS);
    }

    private static void factors(Check check) {
        String title = "( e ) is worked out when all that was tested";
        check.program(title, "10MATR=(1/0)*P", UNSUPPORTED);
        check.program(title, "10MATR=(FNA(1))*P", UNSUPPORTED);
        check.program(title, "10DIMR(1,1)\n20MATR=(R(2,2))*P", UNSUPPORTED);
        check.program(title, "10DIMP(1,1)\n20MATR=(1/0)*P", ARITHMETIC, "element 2 1 1 -> " + BOUNDS);
        check.program(title, "10DIMP(1,1)\n20MATR=(FNA(1))*P", MISSING, "element 2 1 1 -> " + BOUNDS);
        check.program(title, "10DIMP(1,1)\n20MATR=(P(1,2))*P", BOUNDS, "element 2 1 1 -> " + BOUNDS);
        check.program(title, "10DIMP(1,1)\n20DIMR(1,2)\n30MATR=CON\n40MATR=(1/0)*P", ARITHMETIC, filledWith(2, 1, 2, "1"));
        check.program(title, "10DIMP(1,1)\n15MATP=CON\n20DEFFNA(X)=X+1\n30MATP=(FNA(P(1,1)))*P", "4", "element 0 1 1 -> 2");
    }

    private static final String TOP = "1DIMP(1,2)\n2LETP(1,1)=5\n3LETP(1,2)=8^20\n4DIMQ(1,2)\n5LETQ(1,1)=1\n6LETQ(1,2)=%\n7DIMR(2,1)\n8MATR=CON\n";

    /** A MAT of P, which is 5 and 2^60, and Q, which is 1 and what is given; R was 2 by 1 and all 1. */
    private static void result(Check check, String q, String mat, String first, String second) {
        String title = "+ - of elements, and ( e ) times each: " + mat + " for " + q;
        if (second.equals(ARITHMETIC)) {
            check.program(title, TOP.replace("%", q) + "9" + mat, ARITHMETIC, Check.joined(filledWith(2, 2, 1, "1"),
                    "element 0 1 1 -> 5", "element 0 1 2 -> " + LARGEST, "element 1 1 1 -> 1", "at -> 9"));
        } else {
            check.program(title, TOP.replace("%", q) + "9" + mat, "9", Check.joined(sizeOf(2, 1, 2),
                    "element 2 1 1 -> " + first, "element 2 1 2 -> " + second));
        }
    }

    private static void tooLarge(Check check) {
        result(check, "0", "MATR=P+Q", "6", "" + LARGEST);
        result(check, "128", "MATR=P+Q", "6", "" + LARGEST);
        result(check, "256", "MATR=P+Q", "6", ARITHMETIC);
        result(check, "-128", "MATR=P+Q", "6", "" + (LARGEST - 128));
        result(check, "128", "MATR=P-Q", "4", "" + (LARGEST - 128));
        result(check, "-128", "MATR=P-Q", "4", "" + LARGEST);
        result(check, "-256", "MATR=P-Q", "4", ARITHMETIC);
        result(check, "8^20", "MATR=P-Q", "4", "0");
        result(check, "8^20", "MATR=Q-P", "-4", "0");
        result(check, "-256", "MATR=Q-P", "-4", ARITHMETIC);
        result(check, "-128", "MATR=Q-P", "-4", "" + -LARGEST);
        result(check, "0", "MATR=(1)*P", "5", "" + LARGEST);
        result(check, "0", "MATR=(1.001)*P", "5", ARITHMETIC);
        result(check, "0", "MATR=(-1)*P", "-5", "" + -LARGEST);
        result(check, "0", "MATR=(-1.001)*P", "5", ARITHMETIC);
        result(check, "0", "MATR=(0)*P", "0", "0");
        String title = "what throws changes the first in nothing, though it stands behind = too";
        check.program(title, TOP.replace("%", "0") + "9MATP=P+P", ARITHMETIC, "element 0 1 1 -> 5", "element 0 1 2 -> " + LARGEST);
        check.program(title, TOP.replace("%", "0") + "9MATP=(2)*P", ARITHMETIC, "element 0 1 1 -> 5", "element 0 1 2 -> " + LARGEST);
        check.program(title, "1DIMP(2,2)\n2MATP=IDN\n3LETP(2,2)=2^20*2048\n4MATP=P*P", ARITHMETIC,
                "element 0 1 1 -> 1", "element 0 1 2 -> 0", "element 0 2 2 -> 2147483648");
    }

    /** R = P * Q, where P is one row of three and Q one column of three. */
    private static void product(Check check, String title, String p, String q, String due) {
        String[] left = p.split(" ");
        String[] right = q.split(" ");
        StringBuilder lines = new StringBuilder("1DIMP(1,3)\n2DIMQ(3,1)\n");
        for (int k = 0; k < 3; k++) {
            lines.append(3 + k).append("LETP(1,").append(k + 1).append(")=").append(left[k]).append('\n');
            lines.append(6 + k).append("LETQ(").append(k + 1).append(",1)=").append(right[k]).append('\n');
        }
        boolean isThrown = due.equals(ARITHMETIC);
        check.program(title + ": " + p + " and " + q, lines + "9MATR=P*Q", isThrown ? due : "9", "element 2 1 1 -> " + (isThrown ? BOUNDS : due));
    }

    private static void products(Check check) {
        String title = "the sum, from the first on, of the products (each a result)";
        product(check, title, "1 2 3", "4 5 6", "32");
        product(check, title, "8^20 0 0", "1 0 0", "" + LARGEST);
        product(check, title, "8^20 0 0", "1.001 0 0", ARITHMETIC);
        product(check, title, "8^20 0 0", "-1 0 0", "" + -LARGEST);
        product(check, title, "8^20 0 0", "-1.001 0 0", ARITHMETIC);
        product(check, title, "0 0 8^20", "0 0 1.001", ARITHMETIC);
        product(check, title, "8^20 128 0", "1 1 0", "" + LARGEST);
        product(check, title, "8^20 256 0", "1 1 0", ARITHMETIC);
        product(check, title, "8^20 256 256", "1 1 -1", ARITHMETIC);
        product(check, title, "8^20 256 256", "1 -1 1", "" + LARGEST);
        product(check, title, "256 256 8^20", "1 -1 1", "" + LARGEST);
        product(check, title, "256 8^20 -256", "1 1 1", ARITHMETIC);
        product(check, title, "-8^20 -256 256", "1 1 1", ARITHMETIC);
        product(check, title, "-8^20 -128 128", "1 1 1", "" + (128 - LARGEST));
        product(check, title, "0.1 0.2 0.3", "1 1 1", "" + (0.1 + 0.2 + 0.3));
        product(check, title, "0.3 0.2 0.1", "1 1 1", "" + (0.3 + 0.2 + 0.1));
        product(check, title, "8^20 -8^20 1", "2 2 1", ARITHMETIC);
    }

    public static void main(String[] args) {
        Check check = new Check();
        oneMatrix(check);
        twoMatrices(check);
        inPlace(check);
        notThere(check);
        factors(check);
        tooLarge(check);
        products(check);
        check.finish();
    }
}
