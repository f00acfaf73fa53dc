import java.util.ArrayList;
import java.util.List;

/**
 * Plays runs of calls on a new object each. A step is written "call -> answer": the call is a name of
 * the face with its arguments, or "> " and a text that is typed and entered; the answer is a number
 * or the name of the exception that is due.
 */
final class Check {
    /** The document promises nothing about an object after so many calls. */
    private static final int MOST_CALLS = 512;
    private static final List<String> LOOKS = looks();

    private int wrong;
    private int played;

    /** An object, with the calls that it got counted. */
    private static final class Subject {
        final BasicMachine machine = new BasicMachine();
        int calls;
    }

    void play(String title, String... steps) {
        Subject subject = new Subject();
        for (String step : steps) {
            expect(title, subject, step);
        }
        keepWithin(title, subject);
    }

    /** A program that is entered whole, and then run with the answer that is due. */
    void program(String title, String lines, String due, String... steps) {
        play(title, joined(entered(lines), joined(new String[] {"run -> " + due}, steps)));
    }

    /** What one expression comes to, behind lines that are entered before it. */
    void value(String expression, String due) {
        value("", expression, due);
    }

    /** The same, with a title before the expression. */
    void value(String title, String expression, String due) {
        boolean isThrown = due.endsWith("Exception");
        program(title + " " + expression, "10 PRINT " + expression, isThrown ? due : "1",
                isThrown ? "count 3 -> 0" : "printed 0 -> " + due);
    }

    void wrongLine(String text, int place) {
        wrongLine("", text, place);
    }

    void wrongLine(String title, String text, int place) {
        play(title + " " + text, "> " + text + " -> IllegalArgumentException", "errorAt -> " + place,
                "count 0 -> 0", "count 1 -> 0");
    }

    void rightLine(String text) {
        rightLine("", text);
    }

    void rightLine(String title, String text) {
        play(title + " " + text, "> " + text + " -> 1", "errorAt -> -1", "count 0 -> 0", "count 1 -> 1");
    }

    /**
     * A call that throws: behind it all is as on a twin that never got it, but for the changes named;
     * and one more enter and one more RUN show that THE LINE and the program are the twin's, too.
     */
    void refused(String title, String[] before, String call, String due, String... changes) {
        besideTwin(title, before, call, due, new String[0], changes);
        besideTwin(title + ", entered and run", before, call, due, new String[] {"enter", "run"});
    }

    private void besideTwin(String title, String[] before, String call, String due, String[] later, String... changes) {
        Subject subject = new Subject();
        Subject twin = new Subject();
        for (String step : before) {
            expect(title, subject, step);
            answer(twin, callOf(step));
        }
        expect(title, subject, call + " -> " + due);
        for (String next : later) {
            expect(title, subject, next + " -> " + answer(twin, next));
        }
        for (String look : LOOKS) {
            String change = changeOf(look, changes);
            expect(title, subject, change != null ? change : look + " -> " + answer(twin, look));
        }
        keepWithin(title, subject);
    }

    private static String changeOf(String look, String[] changes) {
        for (String change : changes) {
            if (callOf(change).equals(look)) {
                return change;
            }
        }
        return null;
    }

    /** The steps that enter these lines, which all have different numbers. */
    static String[] entered(String lines) {
        String[] texts = lines.split("\n");
        String[] steps = new String[texts.length];
        for (int k = 0; k < texts.length; k++) {
            steps[k] = "> " + texts[k] + " -> " + (k + 1);
        }
        return steps;
    }

    /** The steps that type these characters into an empty LINE. */
    static String[] typed(String text) {
        String[] steps = new String[text.length()];
        for (int k = 0; k < steps.length; k++) {
            steps[k] = "type " + (int) text.charAt(k) + " -> " + (k + 1);
        }
        return steps;
    }

    static String[] joined(String[] first, String... second) {
        String[] all = new String[first.length + second.length];
        System.arraycopy(first, 0, all, 0, first.length);
        System.arraycopy(second, 0, all, first.length, second.length);
        return all;
    }

    void finish() {
        System.out.println(wrong == 0 ? played + " answers are as due" : wrong + " answers are not as due");
        if (wrong != 0 || played == 0) {
            System.exit(1);
        }
    }

    private void keepWithin(String title, Subject subject) {
        if (subject.calls > MOST_CALLS) {
            wrong++;
            System.out.println(title + ": the test makes " + subject.calls + " calls on one object");
        }
    }

    private static String callOf(String step) {
        return step.substring(0, step.lastIndexOf(" -> "));
    }

    private void expect(String title, Subject subject, String step) {
        String call = callOf(step);
        String due = step.substring(call.length() + 4);
        String got = answer(subject, call);
        played++;
        if (!isSame(got, due)) {
            wrong++;
            System.out.println(title + ": " + call + " answered " + got + ", due is " + due);
        }
    }

    private static boolean isSame(String got, String due) {
        if (got.endsWith("Exception") || due.endsWith("Exception")) {
            return got.equals(due);
        }
        return Double.parseDouble(got) == Double.parseDouble(due);
    }

    /** Calls that change nothing, and that together show all that can be seen without a change. */
    private static List<String> looks() {
        List<String> looks = new ArrayList<>();
        looks.add("errorAt");
        looks.add("at");
        for (int what = 0; what <= 9; what++) {
            looks.add("count " + what);
        }
        for (int k = 0; k <= 40; k += k < 3 ? 1 : 36) {
            looks.add("printed " + k);
        }
        for (int s = 0; s < 26; s++) {
            looks.add("variable " + s);
        }
        for (int m = 0; m < 3; m++) {
            for (int i = 1; i <= 6; i++) {
                looks.add("element " + m + " " + i + " 1");
                looks.add("element " + m + " 1 " + i);
                looks.add("element " + m + " " + i + " " + i);
            }
        }
        return looks;
    }

    private static String answer(Subject subject, String call) {
        try {
            if (call.startsWith(">")) {
                for (int k = 2; k < call.length(); k++) {
                    subject.calls++;
                    subject.machine.type(call.charAt(k));
                }
                subject.calls++;
                return "" + subject.machine.enter();
            }
            String[] parts = call.split(" ");
            int[] a = new int[3];
            for (int k = 1; k < parts.length; k++) {
                a[k - 1] = Integer.parseInt(parts[k]);
            }
            subject.calls++;
            return faceAnswer(subject.machine, parts[0], a);
        } catch (RuntimeException e) {
            return e.getClass().getSimpleName();
        }
    }

    private static String faceAnswer(BasicMachine machine, String name, int[] a) {
        switch (name) {
            case "type": return "" + machine.type(a[0]);
            case "enter": return "" + machine.enter();
            case "errorAt": return "" + machine.errorAt();
            case "wipe": return "" + machine.wipe();
            case "run": return "" + machine.run();
            case "printed": return "" + machine.printed(a[0]);
            case "variable": return "" + machine.variable(a[0]);
            case "element": return "" + machine.element(a[0], a[1], a[2]);
            case "at": return "" + machine.at();
            case "count": return "" + machine.count(a[0]);
            default: throw new IllegalArgumentException("no such call in a test: " + name);
        }
    }
}
