import java.util.NoSuchElementException;

/**
 * A BASIC: numbered lines are typed and taken apart one by one, and the program is run with loops,
 * subroutines, data, functions and matrices of doubles.
 */
public final class BasicMachine {
    private static final int LAST_CHARACTER = 127;
    private static final int MOST_CHARACTERS = 60;
    private static final int MOST_BRACKETS = 6;
    private static final int MOST_LINES = 24;
    private static final int MOST_LOOPS = 6;
    private static final int MOST_SUBROUTINES = 8;
    private static final int MOST_FUNCTIONS_UNDER_WAY = 3;
    private static final int MOST_STEPS = 300;
    private static final int MOST_PRINTED = 40;
    private static final int MOST_CONSTANTS = 6;
    private static final int MOST_TARGETS = 4;
    private static final int MOST_EXPRESSIONS = 3;
    private static final int MOST_ROWS = 6;
    private static final int MOST_POWER = 20;
    private static final int NUMBER_DIGITS = 3;
    private static final int WHOLE_DIGITS = 6;
    private static final int BROKEN_DIGITS = 3;
    private static final int LETTERS = 26;
    private static final int FUNCTIONS = 3;
    private static final long LARGEST = 1L << 60;

    private static final Statement[] STATEMENTS = Statement.values();

    private final char[] typed = new char[MOST_CHARACTERS];
    private int typedLength;
    private int wrongPlace = -1;
    private final Parser parser = new Parser();
    private final Machine machine = new Machine();

    public BasicMachine() {
    }

    public int type(int c) throws IllegalArgumentException, IllegalStateException {
        if (c < 0 || c > LAST_CHARACTER) {
            throw new IllegalArgumentException("not a character 0 .. 127");
        }
        if (typedLength >= MOST_CHARACTERS) {
            throw new IllegalStateException("the line is full");
        }
        typed[typedLength] = (char) c;
        typedLength++;
        return typedLength;
    }

    public int enter() throws IllegalArgumentException, NoSuchElementException, IllegalStateException {
        boolean isLine = parser.takeApart(typed, typedLength);
        typedLength = 0;
        wrongPlace = isLine ? -1 : parser.place;
        if (!isLine) {
            throw new IllegalArgumentException("not a line");
        }
        Line line = parser.line;
        if (line.isBare) {
            if (!machine.program.remove(line.number)) {
                throw new NoSuchElementException("no line to go");
            }
            return machine.program.size;
        }
        Line free = machine.program.put(line);
        if (free == null) {
            throw new IllegalStateException("the program is full");
        }
        parser.line = free;
        return machine.program.size;
    }

    public int errorAt() {
        return wrongPlace;
    }

    public int wipe() {
        int were = machine.program.size;
        machine.program.size = 0;
        return were;
    }

    public int run() throws IllegalArgumentException, IllegalStateException, NoSuchElementException,
            ArithmeticException, IndexOutOfBoundsException, UnsupportedOperationException {
        raise(machine.execute());
        return machine.steps;
    }

    public double printed(int k) throws NoSuchElementException {
        if (k < 0 || k >= MOST_PRINTED || k >= machine.printedTotal) {
            throw new NoSuchElementException("no such number");
        }
        return machine.printedNumbers[k];
    }

    public double variable(int s) throws IllegalArgumentException {
        if (s < 0 || s >= LETTERS || !isVariable('A' + s)) {
            throw new IllegalArgumentException("no such variable");
        }
        return machine.calculator.get(s);
    }

    public double element(int m, int i, int j) throws IllegalArgumentException, IndexOutOfBoundsException {
        if (m < 0 || m > 2) {
            throw new IllegalArgumentException("no such matrix");
        }
        Matrix matrix = machine.calculator.matrixAt(m);
        int place = matrix.placeOf(i, j);
        if (place < 0) {
            throw new IndexOutOfBoundsException("no such element");
        }
        return matrix.get(place);
    }

    public int at() {
        return machine.lastNumber;
    }

    public int count(int what) {
        switch (what) {
            case 0: return typedLength;
            case 1: return machine.program.size;
            case 2: return machine.steps;
            case 3: return machine.printedTotal;
            case 4: return machine.loops.size;
            case 5: return machine.returnTotal;
            case 6: return machine.dataTotal - machine.dataRead;
            case 7: return machine.thrown;
            case 8: return machine.program.numberOf(0);
            case 9: return machine.program.numberOf(machine.program.size - 1);
            default: return -1;
        }
    }

    private static void raise(Fault fault) {
        switch (fault) {
            case ARGUMENT: throw new IllegalArgumentException("no such place behind GOTO");
            case STATE: throw new IllegalStateException("too many under way, or none");
            case MISSING: throw new NoSuchElementException("no such line, function or constant");
            case ARITHMETIC: throw new ArithmeticException("no such result");
            case BOUNDS: throw new IndexOutOfBoundsException("no such element");
            case UNSUPPORTED: throw new UnsupportedOperationException("no such matrix, or sizes that do not fit");
            default: break;
        }
    }

    private static boolean isDigit(int c) {
        return c >= '0' && c <= '9';
    }

    private static boolean isMatrix(int c) {
        return c >= 'P' && c <= 'R';
    }

    private static boolean isVariable(int c) {
        return c >= 'A' && c <= 'Z' && (c < 'P' || c > 'R');
    }

    private static boolean isFunction(int c) {
        return c >= 'A' && c <= 'C';
    }

    /** The statements, each with the word that it begins with. None of the words begins another. */
    private enum Statement {
        LET("LET"), PRINT("PRINT"), IF("IF"), GOTO("GOTO"), ON("ON"), GOSUB("GOSUB"), RETURN("RETURN"),
        FOR("FOR"), NEXT("NEXT"), READ("READ"), DATA("DATA"), RESTORE("RESTORE"), DIM("DIM"), DEF("DEFFN"),
        MAT("MAT"), REM("REM"), END("END");

        final String word;

        Statement(String word) {
            this.word = word;
        }
    }

    /** What can stand behind = in a MAT. */
    private enum Form {
        ZER, CON, IDN, COPY, ADD, SUBTRACT, MULTIPLY, TRANSPOSE, SCALE
    }

    /** What a RUN can throw. */
    private enum Fault {
        NONE, ARGUMENT, STATE, MISSING, ARITHMETIC, BOUNDS, UNSUPPORTED
    }

    /** A line taken apart; an expression is held as operations in the order in which they are done. */
    private static final class Line {
        static final int NUMERAL = 0;
        static final int VARIABLE = 1;
        static final int ELEMENT = 2;
        static final int NEGATE = 3;
        static final int ADD = 4;
        static final int SUBTRACT = 5;
        static final int MULTIPLY = 6;
        static final int DIVIDE = 7;
        static final int POWER = 8;
        static final int ABS = 9;
        static final int INT = 10;
        static final int SGN = 11;
        static final int FIND_FUNCTION = 12;
        static final int CALL_FUNCTION = 13;

        // The parts of a relation: <= is LESS + EQUAL, and so on.
        static final int LESS = 1;
        static final int EQUAL = 2;
        static final int GREATER = 4;

        int number;
        boolean isBare;
        Statement statement = Statement.REM;
        int letter;
        boolean isElement;
        int function;
        int relation;
        Form form = Form.ZER;
        // LINE NUMBERS gone to, c's of DATA in thousandths, sizes of DIM or MATRICES behind = of MAT.
        final int[] numbers = new int[MOST_CONSTANTS];
        int numberTotal;
        // Every operation comes from a character of its own, so these are long enough.
        final int[] operations = new int[MOST_CHARACTERS];
        final int[] operands = new int[MOST_CHARACTERS];
        int operationTotal;
        final int[] ends = new int[MOST_EXPRESSIONS];
        int expressionTotal;

        void clear() {
            number = 0;
            isBare = false;
            statement = Statement.REM;
            isElement = false;
            numberTotal = 0;
            operationTotal = 0;
            expressionTotal = 0;
        }

        void addNumber(int n) {
            if (numberTotal < numbers.length) {
                numbers[numberTotal] = n;
                numberTotal++;
            }
        }

        int numberAt(int k) {
            return k >= 0 && k < numberTotal ? numbers[k] : 0;
        }

        void addOperation(int operation, int operand) {
            if (operationTotal < operations.length) {
                operations[operationTotal] = operation;
                operands[operationTotal] = operand;
                operationTotal++;
            }
        }

        void endExpression() {
            if (expressionTotal < ends.length) {
                ends[expressionTotal] = operationTotal;
                expressionTotal++;
            }
        }

        int startOf(int expression) {
            return endOf(expression - 1);
        }

        int endOf(int expression) {
            return expression >= 0 && expression < expressionTotal ? ends[expression] : 0;
        }
    }

    /**
     * Takes THE LINE apart. A character is passed only if some line goes on from it, so that after a
     * method has answered false, place is the least one at which there is no line any more.
     */
    private static final class Parser {
        Line line = new Line();
        int place;
        private final char[] text = new char[MOST_CHARACTERS];
        private int length;
        private int open;
        private int value;

        boolean takeApart(char[] typed, int typedLength) {
            leaveBlanksOut(typed, typedLength);
            place = 0;
            open = 0;
            line.clear();
            if (!lineNumber()) {
                return false;
            }
            line.number = value;
            line.isBare = place == length;
            return line.isBare || (keyword() && rest() && place == length);
        }

        private void leaveBlanksOut(char[] typed, int typedLength) {
            length = 0;
            for (int k = 0; k < typedLength && k < typed.length; k++) {
                if (typed[k] != ' ' && length < text.length) {
                    text[length] = typed[k];
                    length++;
                }
            }
        }

        private int next() {
            return place < length ? text[place] : -1;
        }

        private int behind(int distance) {
            return place + distance < length ? text[place + distance] : -1;
        }

        private boolean skip(char c) {
            if (place >= length || text[place] != c) {
                return false;
            }
            place++;
            return true;
        }

        private boolean word(String word) {
            for (int k = 0; k < word.length(); k++) {
                if (!skip(word.charAt(k))) {
                    return false;
                }
            }
            return true;
        }

        private boolean keyword() {
            int longest = 0;
            for (int k = 0; k < STATEMENTS.length; k++) {
                int shared = sharedLength(STATEMENTS[k].word);
                if (shared == STATEMENTS[k].word.length()) {
                    line.statement = STATEMENTS[k];
                    place += shared;
                    return true;
                }
                longest = Math.max(longest, shared);
            }
            place += longest;
            return false;
        }

        private int sharedLength(String word) {
            int shared = 0;
            while (shared < word.length() && behind(shared) == word.charAt(shared)) {
                shared++;
            }
            return shared;
        }

        private boolean rest() {
            switch (line.statement) {
                case LET: return target() && skip('=') && expression();
                case PRINT: return expression();
                case IF: return expression() && relation() && expression() && word("THEN") && jump();
                case GOTO: return jump();
                case ON: return expression() && word("GOTO") && jumps();
                case GOSUB: return jump();
                case FOR: return simple() && skip('=') && expression() && word("TO") && expression() && growth();
                case NEXT: return simple();
                case READ: return target();
                case DATA: return constants();
                case DIM: return matrix() && skip('(') && extent() && skip(',') && extent() && skip(')');
                case DEF: return function() && skip('(') && simple() && skip(')') && skip('=') && expression();
                case MAT: return matrix() && skip('=') && source();
                case REM: return anything();
                default: return true;
            }
        }

        private boolean anything() {
            place = length;
            return true;
        }

        private boolean lineNumber() {
            value = 0;
            for (int k = 1; k <= NUMBER_DIGITS && isDigit(next()); k++) {
                int grown = value * 10 + next() - '0';
                if (k == NUMBER_DIGITS && grown == 0) {
                    return false;
                }
                value = grown;
                place++;
            }
            return value > 0;
        }

        private boolean jump() {
            if (!lineNumber()) {
                return false;
            }
            line.addNumber(value);
            return true;
        }

        private boolean jumps() {
            boolean isRight = jump();
            for (int k = 1; k < MOST_TARGETS && isRight && skip(','); k++) {
                isRight = jump();
            }
            return isRight;
        }

        private boolean constants() {
            boolean isRight = constant();
            for (int k = 1; k < MOST_CONSTANTS && isRight && skip(','); k++) {
                isRight = constant();
            }
            return isRight;
        }

        private boolean constant() {
            boolean isMinus = skip('-');
            if (!numeral()) {
                return false;
            }
            line.addNumber(isMinus ? -value : value);
            return true;
        }

        /** Leaves the value in thousandths: these are whole, so that one division gives the nearest double. */
        private boolean numeral() {
            if (!isDigit(next())) {
                return false;
            }
            value = 0;
            for (int k = 0; k < WHOLE_DIGITS && isDigit(next()); k++) {
                value = value * 10 + next() - '0';
                place++;
            }
            boolean isBroken = skip('.');
            if (isBroken && !isDigit(next())) {
                return false;
            }
            for (int k = 0; k < BROKEN_DIGITS; k++) {
                boolean isMore = isBroken && isDigit(next());
                value = value * 10 + (isMore ? next() - '0' : 0);
                place += isMore ? 1 : 0;
            }
            return true;
        }

        private boolean extent() {
            int rows = next() - '0';
            if (rows < 1 || rows > MOST_ROWS) {
                return false;
            }
            line.addNumber(rows);
            place++;
            return true;
        }

        private boolean simple() {
            if (!isVariable(next())) {
                return false;
            }
            line.letter = next() - 'A';
            place++;
            return true;
        }

        private boolean matrix() {
            if (!isMatrix(next())) {
                return false;
            }
            line.letter = next() - 'P';
            place++;
            return true;
        }

        private boolean function() {
            if (!isFunction(next())) {
                return false;
            }
            line.function = next() - 'A';
            place++;
            return true;
        }

        private boolean target() {
            line.isElement = isMatrix(next());
            if (!line.isElement) {
                return simple();
            }
            return matrix() && openBracket() && expression() && skip(',') && expression() && closeBracket();
        }

        private boolean relation() {
            int first = next();
            line.relation = first == '<' ? Line.LESS : first == '=' ? Line.EQUAL : first == '>' ? Line.GREATER : 0;
            if (line.relation == 0) {
                return false;
            }
            place++;
            if (first != '=' && skip('=')) {
                line.relation += Line.EQUAL;
            } else if (first == '<' && skip('>')) {
                line.relation += Line.GREATER;
            }
            return true;
        }

        private boolean growth() {
            return place == length || (word("STEP") && expression());
        }

        private boolean source() {
            switch (next()) {
                case 'Z': return form(Form.ZER) && word("ZER");
                case 'C': return form(Form.CON) && word("CON");
                case 'I': return form(Form.IDN) && word("IDN");
                case 'T': return form(Form.TRANSPOSE) && word("TRN(") && operand() && skip(')');
                case '(': return form(Form.SCALE) && openBracket() && expression() && word(")*") && operand();
                default: return form(Form.COPY) && operand() && secondOperand();
            }
        }

        private boolean form(Form form) {
            line.form = form;
            return true;
        }

        private boolean operand() {
            if (!isMatrix(next())) {
                return false;
            }
            line.addNumber(next() - 'P');
            place++;
            return true;
        }

        private boolean secondOperand() {
            switch (next()) {
                case '+': line.form = Form.ADD; break;
                case '-': line.form = Form.SUBTRACT; break;
                case '*': line.form = Form.MULTIPLY; break;
                default: return true;
            }
            place++;
            return operand();
        }

        private boolean expression() {
            boolean isRight = sum();
            line.endExpression();
            return isRight;
        }

        private boolean sum() {
            boolean isMinus = skip('-');
            boolean isRight = product() && (!isMinus || operation(Line.NEGATE, 0));
            for (int k = 0; k < MOST_CHARACTERS && isRight && (next() == '+' || next() == '-'); k++) {
                int operation = next() == '+' ? Line.ADD : Line.SUBTRACT;
                place++;
                isRight = product() && operation(operation, 0);
            }
            return isRight;
        }

        private boolean product() {
            boolean isRight = power();
            for (int k = 0; k < MOST_CHARACTERS && isRight && (next() == '*' || next() == '/'); k++) {
                int operation = next() == '*' ? Line.MULTIPLY : Line.DIVIDE;
                place++;
                isRight = power() && operation(operation, 0);
            }
            return isRight;
        }

        private boolean power() {
            boolean isRight = part();
            for (int k = 0; k < MOST_CHARACTERS && isRight && skip('^'); k++) {
                isRight = part() && operation(Line.POWER, 0);
            }
            return isRight;
        }

        private boolean part() {
            int c = next();
            if (isDigit(c)) {
                return numeral() && operation(Line.NUMERAL, value);
            }
            if (c == '(') {
                return bracketed();
            }
            if (isMatrix(c)) {
                return matrixElement(c - 'P');
            }
            if (beginsName()) {
                return call(c);
            }
            if (!isVariable(c)) {
                return false;
            }
            place++;
            return operation(Line.VARIABLE, c - 'A');
        }

        private boolean operation(int operation, int operand) {
            line.addOperation(operation, operand);
            return true;
        }

        /** A letter is a VARIABLE, unless the second letter of a function stands behind it. */
        private boolean beginsName() {
            switch (next()) {
                case 'A': return behind(1) == 'B';
                case 'I': return behind(1) == 'N';
                case 'F': return behind(1) == 'N';
                // In ON S GOTO the G behind the VARIABLE S is not that of SGN.
                case 'S': return behind(1) == 'G'
                        && (line.statement != Statement.ON || open > 0 || behind(2) == 'N');
                default: return false;
            }
        }

        private boolean call(int first) {
            // The first letter alone would be a VARIABLE; the second needs one more bracket.
            place++;
            if (open >= MOST_BRACKETS) {
                return false;
            }
            switch (first) {
                case 'A': return word("BS") && bracketed() && operation(Line.ABS, 0);
                case 'I': return word("NT") && bracketed() && operation(Line.INT, 0);
                case 'S': return word("GN") && bracketed() && operation(Line.SGN, 0);
                default: return word("N") && callDefined(next());
            }
        }

        private boolean callDefined(int name) {
            if (!isFunction(name)) {
                return false;
            }
            place++;
            return operation(Line.FIND_FUNCTION, name - 'A') && bracketed()
                    && operation(Line.CALL_FUNCTION, name - 'A');
        }

        private boolean matrixElement(int matrix) {
            if (open >= MOST_BRACKETS) {
                return false;
            }
            place++;
            return openBracket() && sum() && skip(',') && sum() && closeBracket()
                    && operation(Line.ELEMENT, matrix);
        }

        private boolean bracketed() {
            return openBracket() && sum() && closeBracket();
        }

        private boolean openBracket() {
            if (open >= MOST_BRACKETS || !skip('(')) {
                return false;
            }
            open++;
            return true;
        }

        private boolean closeBracket() {
            if (!skip(')')) {
                return false;
            }
            open--;
            return true;
        }
    }

    /** The lines in order of their numbers; behind the first size of them, rows for lines to come. */
    private static final class Program {
        int size;
        private final Line[] lines = new Line[MOST_LINES];

        Program() {
            for (int k = 0; k < lines.length; k++) {
                lines[k] = new Line();
            }
        }

        /** The line at a place, or null if there is none. */
        Line lineAt(int place) {
            return place >= 0 && place < size && place < lines.length ? lines[place] : null;
        }

        int numberOf(int place) {
            Line line = lineAt(place);
            return line == null ? -1 : line.number;
        }

        /** The place of the line with this number, or -1. */
        int find(int number) {
            for (int k = 0; k < size; k++) {
                if (numberOf(k) == number) {
                    return k;
                }
            }
            return -1;
        }

        private int placeFor(int number) {
            int place = 0;
            while (place < size && numberOf(place) < number) {
                place++;
            }
            return place;
        }

        /** Takes a line in and gives back a row that is free for it, or null if the program is full. */
        Line put(Line line) {
            int place = placeFor(line.number);
            Line old = lineAt(place);
            if (old != null && old.number == line.number) {
                lines[place] = line;
                return old;
            }
            if (size >= lines.length) {
                return null;
            }
            Line free = lines[size];
            for (int k = size; k > place; k--) {
                lines[k] = lines[k - 1];
            }
            lines[place] = line;
            size++;
            return free;
        }

        boolean remove(int number) {
            int place = find(number);
            Line old = lineAt(place);
            if (old == null) {
                return false;
            }
            for (int k = place; k < size - 1; k++) {
                lines[k] = lines[k + 1];
            }
            size--;
            lines[size] = old;
            return true;
        }
    }

    /** A MATRIX; it has no rows when it is not there. */
    private static final class Matrix {
        int rows;
        int columns;
        private final double[] elements = new double[MOST_ROWS * MOST_ROWS];

        void shape(int newRows, int newColumns) {
            rows = newRows;
            columns = newColumns;
            for (int k = 0; k < elements.length; k++) {
                elements[k] = 0;
            }
        }

        /** Where the element is held, or -1 if there is none such; rows and columns from 1. */
        int placeOf(long row, long column) {
            if (row < 1 || row > rows || column < 1 || column > columns) {
                return -1;
            }
            return (int) (row - 1) * MOST_ROWS + (int) (column - 1);
        }

        double get(int place) {
            return place >= 0 && place < elements.length ? elements[place] : 0;
        }

        void set(int place, double value) {
            if (place >= 0 && place < elements.length) {
                elements[place] = value;
            }
        }

        void become(Matrix other) {
            rows = other.rows;
            columns = other.columns;
            System.arraycopy(other.elements, 0, elements, 0, elements.length);
        }

        boolean isThere() {
            return rows > 0;
        }

        boolean isSquare() {
            return rows == columns;
        }

        boolean isSizedAs(Matrix other) {
            return rows == other.rows && columns == other.columns;
        }
    }

    /** Works expressions and MATRICES out. The first fault is kept, and nothing is worked out after it. */
    private static final class Calculator {
        Fault fault = Fault.NONE;
        private final double[] variables = new double[LETTERS];
        private final Matrix p = new Matrix();
        private final Matrix q = new Matrix();
        private final Matrix r = new Matrix();
        private final Matrix draft = new Matrix();
        private final Line[] functions = new Line[FUNCTIONS];
        // Every operand on it comes from a character of a line: that of the STEP, or of a FN under way.
        private final double[] stack = new double[MOST_CHARACTERS * (MOST_FUNCTIONS_UNDER_WAY + 1)];
        private int top;

        void clear() {
            fault = Fault.NONE;
            top = 0;
            for (int k = 0; k < variables.length; k++) {
                variables[k] = 0;
            }
            for (int k = 0; k < functions.length; k++) {
                functions[k] = null;
            }
            p.shape(0, 0);
            q.shape(0, 0);
            r.shape(0, 0);
        }

        boolean isFine() {
            return fault == Fault.NONE;
        }

        void fail(Fault newFault) {
            fault = fault == Fault.NONE ? newFault : fault;
        }

        double get(int letter) {
            return letter >= 0 && letter < variables.length ? variables[letter] : 0;
        }

        void set(int letter, double value) {
            if (letter >= 0 && letter < variables.length) {
                variables[letter] = value;
            }
        }

        Matrix matrixAt(int matrix) {
            return matrix == 0 ? p : matrix == 1 ? q : r;
        }

        void define(int function, Line line) {
            if (function >= 0 && function < functions.length) {
                functions[function] = line;
            }
        }

        private Line functionAt(int function) {
            return function >= 0 && function < functions.length ? functions[function] : null;
        }

        private void push(double value) {
            if (top < stack.length) {
                stack[top] = value;
                top++;
            }
        }

        private double pop() {
            if (top <= 0) {
                return 0;
            }
            top--;
            return stack[top];
        }

        /** What is worked out, if it is not too large. */
        double result(double value) {
            if (value > LARGEST || value < -LARGEST) {
                fault = fault == Fault.NONE ? Fault.ARITHMETIC : fault;
                return 0;
            }
            return value;
        }

        /** An expression of a STEP's line: no FN is under way yet. */
        double workOut(Line line, int expression) {
            return evaluate(line, expression, 0);
        }

        private double evaluate(Line line, int expression, int underWay) {
            int end = Math.min(line.endOf(expression), line.operations.length);
            for (int k = line.startOf(expression); k < end && isFine(); k++) {
                apply(line.operations[k], line.operands[k], underWay);
            }
            return pop();
        }

        private void apply(int operation, int operand, int underWay) {
            double right;
            switch (operation) {
                case Line.NUMERAL: push(operand / 1000.0); break;
                case Line.VARIABLE: push(get(operand)); break;
                case Line.ELEMENT: pushElement(matrixAt(operand)); break;
                case Line.NEGATE: push(-pop()); break;
                case Line.ABS: push(sizeOf(pop())); break;
                case Line.INT: push(floorOf(pop())); break;
                case Line.SGN: push(signOf(pop())); break;
                case Line.FIND_FUNCTION: findFunction(operand); break;
                case Line.CALL_FUNCTION: callFunction(functionAt(operand), underWay); break;
                case Line.ADD: right = pop(); push(result(pop() + right)); break;
                case Line.SUBTRACT: right = pop(); push(result(pop() - right)); break;
                case Line.MULTIPLY: right = pop(); push(result(pop() * right)); break;
                case Line.DIVIDE: right = pop(); push(quotient(pop(), right)); break;
                case Line.POWER: right = pop(); push(power(pop(), right)); break;
                default: break;
            }
        }

        private double quotient(double left, double right) {
            if (right == 0) {
                fail(Fault.ARITHMETIC);
                return 0;
            }
            return result(left / right);
        }

        private double power(double base, double exponent) {
            if (exponent < -MOST_POWER || exponent > MOST_POWER || (int) exponent != exponent) {
                fail(Fault.ARITHMETIC);
                return 0;
            }
            int times = Math.abs((int) exponent);
            double product = 1;
            for (int k = 0; k < times; k++) {
                product = result(product * base);
            }
            if (exponent < 0 && product == 0) {
                fail(Fault.ARITHMETIC);
                return 0;
            }
            return exponent < 0 ? result(1 / product) : product;
        }

        private static double sizeOf(double x) {
            return x < 0 ? -x : x;
        }

        private static double floorOf(double x) {
            long whole = (long) x;
            return whole > x ? whole - 1 : whole;
        }

        private static double signOf(double x) {
            return x < 0 ? -1 : x > 0 ? 1 : 0;
        }

        private void pushElement(Matrix matrix) {
            double column = pop();
            double row = pop();
            int place = matrix.placeOf((long) row, (long) column);
            if (place < 0) {
                fail(Fault.BOUNDS);
            }
            push(matrix.get(place));
        }

        private void findFunction(int function) {
            if (functionAt(function) == null) {
                fail(Fault.MISSING);
            }
        }

        private void callFunction(Line definition, int underWay) {
            double argument = pop();
            if (definition == null) {
                fail(Fault.MISSING);
                return;
            }
            if (underWay >= MOST_FUNCTIONS_UNDER_WAY) {
                fail(Fault.STATE);
                return;
            }
            double before = get(definition.letter);
            set(definition.letter, argument);
            double value = evaluate(definition, 0, underWay + 1);
            set(definition.letter, before);
            push(value);
        }

        /** Does a MAT. */
        void mat(Line line) {
            Matrix first = matrixAt(line.letter);
            Matrix left = matrixAt(line.numberAt(0));
            Matrix right = matrixAt(line.numberAt(1));
            if (!fits(line.form, first, left, right)) {
                fail(Fault.UNSUPPORTED);
                return;
            }
            double factor = line.form == Form.SCALE ? workOut(line, 0) : 0;
            shapeDraft(line.form, first, left, right);
            for (int i = 1; i <= draft.rows; i++) {
                for (int j = 1; j <= draft.columns; j++) {
                    draft.set(draft.placeOf(i, j), entry(line.form, left, right, factor, i, j));
                }
            }
            if (isFine()) {
                first.become(draft);
            }
        }

        private static boolean fits(Form form, Matrix first, Matrix left, Matrix right) {
            switch (form) {
                case ZER: return first.isThere();
                case CON: return first.isThere();
                case IDN: return first.isThere() && first.isSquare();
                case ADD: return left.isThere() && left.isSizedAs(right);
                case SUBTRACT: return left.isThere() && left.isSizedAs(right);
                case MULTIPLY: return left.isThere() && right.isThere() && left.columns == right.rows;
                default: return left.isThere();
            }
        }

        private void shapeDraft(Form form, Matrix first, Matrix left, Matrix right) {
            switch (form) {
                case ZER: draft.shape(first.rows, first.columns); break;
                case CON: draft.shape(first.rows, first.columns); break;
                case IDN: draft.shape(first.rows, first.columns); break;
                case MULTIPLY: draft.shape(left.rows, right.columns); break;
                case TRANSPOSE: draft.shape(left.columns, left.rows); break;
                default: draft.shape(left.rows, left.columns); break;
            }
        }

        private double entry(Form form, Matrix left, Matrix right, double factor, int i, int j) {
            int here = left.placeOf(i, j);
            switch (form) {
                case ZER: return 0;
                case CON: return 1;
                case IDN: return i == j ? 1 : 0;
                case ADD: return result(left.get(here) + right.get(here));
                case SUBTRACT: return result(left.get(here) - right.get(here));
                case MULTIPLY: return sumOfProducts(left, right, i, j);
                case TRANSPOSE: return left.get(left.placeOf(j, i));
                case SCALE: return result(factor * left.get(here));
                default: return left.get(here);
            }
        }

        private double sumOfProducts(Matrix left, Matrix right, int i, int j) {
            double sum = 0;
            for (int k = 1; k <= left.columns; k++) {
                sum = result(sum + result(left.get(left.placeOf(i, k)) * right.get(right.placeOf(k, j))));
            }
            return sum;
        }
    }

    /** The loops under way, the one that began first at 0. */
    private static final class Loops {
        int size;
        private final int[] letters = new int[MOST_LOOPS];
        private final int[] places = new int[MOST_LOOPS];
        private final double[] limits = new double[MOST_LOOPS];
        private final double[] steps = new double[MOST_LOOPS];

        /** The loop of this VARIABLE, or -1. */
        int find(int letter) {
            for (int k = 0; k < size && k < letters.length; k++) {
                if (letters[k] == letter) {
                    return k;
                }
            }
            return -1;
        }

        boolean add(int letter, int place, double limit, double step) {
            if (size >= letters.length) {
                return false;
            }
            letters[size] = letter;
            places[size] = place;
            limits[size] = limit;
            steps[size] = step;
            size++;
            return true;
        }

        int placeOf(int loop) {
            return loop >= 0 && loop < places.length ? places[loop] : -1;
        }

        double limitOf(int loop) {
            return loop >= 0 && loop < limits.length ? limits[loop] : 0;
        }

        double stepOf(int loop) {
            return loop >= 0 && loop < steps.length ? steps[loop] : 0;
        }
    }

    /** Does the RUN, and holds what the last one left. */
    private static final class Machine {
        final Program program = new Program();
        final Calculator calculator = new Calculator();
        final Loops loops = new Loops();
        final double[] printedNumbers = new double[MOST_PRINTED];
        int printedTotal;
        int returnTotal;
        int dataTotal;
        int dataRead;
        int steps;
        int lastNumber = -1;
        int thrown;
        private final int[] returns = new int[MOST_SUBROUTINES];
        private final double[] data = new double[MOST_LINES * MOST_CONSTANTS];
        private int here;
        private int due;

        Fault execute() {
            begin();
            Line line = program.lineAt(due);
            while (line != null && steps < MOST_STEPS) {
                steps++;
                lastNumber = line.number;
                here = due;
                due++;
                perform(line);
                line = calculator.isFine() ? program.lineAt(due) : null;
            }
            if (line != null) {
                calculator.fail(Fault.STATE);
            }
            if (!calculator.isFine()) {
                thrown++;
            }
            return calculator.fault;
        }

        private void begin() {
            calculator.clear();
            loops.size = 0;
            returnTotal = 0;
            printedTotal = 0;
            steps = 0;
            lastNumber = -1;
            due = 0;
            dataTotal = 0;
            dataRead = 0;
            for (int k = 0; k < program.size; k++) {
                gatherData(program.lineAt(k));
            }
        }

        private void gatherData(Line line) {
            if (line == null || line.statement != Statement.DATA) {
                return;
            }
            for (int k = 0; k < line.numberTotal && dataTotal < data.length; k++) {
                data[dataTotal] = line.numberAt(k) / 1000.0;
                dataTotal++;
            }
        }

        private void perform(Line line) {
            switch (line.statement) {
                case LET: let(line, targetPlace(line)); break;
                case PRINT: print(calculator.workOut(line, 0)); break;
                case IF: goIf(line); break;
                case GOTO: goTo(line.numberAt(0)); break;
                case ON: goToChosen(line); break;
                case GOSUB: goSub(line.numberAt(0)); break;
                case RETURN: goBack(); break;
                case FOR: beginLoop(line); break;
                case NEXT: endLoop(line.letter); break;
                case READ: read(line, targetPlace(line)); break;
                case RESTORE: dataRead = 0; break;
                case DIM: calculator.matrixAt(line.letter).shape(line.numberAt(0), line.numberAt(1)); break;
                case DEF: calculator.define(line.function, line); break;
                case MAT: calculator.mat(line); break;
                case END: due = program.size; break;
                default: break;
            }
        }

        /** Where the element to be set is held in its MATRIX; for a VARIABLE there is nothing to look for. */
        private int targetPlace(Line line) {
            if (!line.isElement) {
                return 0;
            }
            double row = calculator.workOut(line, 0);
            double column = calculator.workOut(line, 1);
            int place = calculator.matrixAt(line.letter).placeOf((long) row, (long) column);
            if (place < 0) {
                calculator.fail(Fault.BOUNDS);
            }
            return place;
        }

        private void let(Line line, int place) {
            store(line, place, calculator.workOut(line, line.isElement ? 2 : 0));
        }

        private void read(Line line, int place) {
            if (dataRead >= dataTotal || dataRead >= data.length) {
                calculator.fail(Fault.MISSING);
                return;
            }
            store(line, place, data[dataRead]);
            dataRead += calculator.isFine() ? 1 : 0;
        }

        private void store(Line line, int place, double value) {
            if (!calculator.isFine()) {
                return;
            }
            if (line.isElement) {
                calculator.matrixAt(line.letter).set(place, value);
            } else {
                calculator.set(line.letter, value);
            }
        }

        private void print(double value) {
            if (!calculator.isFine()) {
                return;
            }
            if (printedTotal < printedNumbers.length) {
                printedNumbers[printedTotal] = value;
            }
            printedTotal++;
        }

        private void goTo(int number) {
            int place = program.find(number);
            if (place < 0) {
                calculator.fail(Fault.MISSING);
                return;
            }
            due = place;
        }

        private void goIf(Line line) {
            double left = calculator.workOut(line, 0);
            double right = calculator.workOut(line, 1);
            int is = left < right ? Line.LESS : left > right ? Line.GREATER : Line.EQUAL;
            if (calculator.isFine() && (line.relation & is) != 0) {
                goTo(line.numberAt(0));
            }
        }

        private void goToChosen(Line line) {
            long choice = (long) calculator.workOut(line, 0);
            if (!calculator.isFine()) {
                return;
            }
            if (choice < 1 || choice > line.numberTotal) {
                calculator.fail(Fault.ARGUMENT);
                return;
            }
            goTo(line.numberAt((int) choice - 1));
        }

        private void goSub(int number) {
            if (returnTotal >= returns.length) {
                calculator.fail(Fault.STATE);
                return;
            }
            goTo(number);
            if (calculator.isFine()) {
                returns[returnTotal] = here + 1;
                returnTotal++;
            }
        }

        private void goBack() {
            if (returnTotal <= 0) {
                calculator.fail(Fault.STATE);
                return;
            }
            returnTotal--;
            due = returns[returnTotal];
        }

        private void beginLoop(Line line) {
            double first = calculator.workOut(line, 0);
            double limit = calculator.workOut(line, 1);
            double step = line.expressionTotal > 2 ? calculator.workOut(line, 2) : 1;
            if (!calculator.isFine()) {
                return;
            }
            int old = loops.find(line.letter);
            loops.size = old < 0 ? loops.size : old;
            calculator.set(line.letter, first);
            if (isOver(first, limit, step)) {
                skipLoop(line.letter);
            } else if (!loops.add(line.letter, here, limit, step)) {
                calculator.fail(Fault.STATE);
            }
        }

        private static boolean isOver(double value, double limit, double step) {
            return step < 0 ? value < limit : value > limit;
        }

        private void skipLoop(int letter) {
            for (int k = here + 1; k < program.size; k++) {
                Line line = program.lineAt(k);
                if (line != null && line.statement == Statement.NEXT && line.letter == letter) {
                    due = k + 1;
                    return;
                }
            }
            calculator.fail(Fault.STATE);
        }

        private void endLoop(int letter) {
            int loop = loops.find(letter);
            if (loop < 0) {
                calculator.fail(Fault.STATE);
                return;
            }
            loops.size = loop + 1;
            double step = loops.stepOf(loop);
            double value = calculator.result(calculator.get(letter) + step);
            if (!calculator.isFine()) {
                return;
            }
            calculator.set(letter, value);
            if (isOver(value, loops.limitOf(loop), step)) {
                loops.size = loop;
            } else {
                due = loops.placeOf(loop) + 1;
            }
        }
    }
}
