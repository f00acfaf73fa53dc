/**
 * Plays runs of calls on a new object each. A step is written "call -> answer": the call is a name of
 * the face with its arguments, or "> " and a text that is typed and entered; the answer is a number
 * or the name of the exception that is due.
 */
final class Check {
    private int wrong;
    private int played;

    void play(String title, String... steps) {
        BasicMachine machine = new BasicMachine();
        for (String step : steps) {
            int arrow = step.lastIndexOf(" -> ");
            String call = step.substring(0, arrow);
            String due = step.substring(arrow + 4);
            String got = answer(machine, call);
            played++;
            if (!isSame(got, due)) {
                wrong++;
                System.out.println(title + ": " + call + " answered " + got + ", due is " + due);
            }
        }
    }

    /** A program that is entered whole, and then run with the answer that is due. */
    void program(String title, String lines, String due, String... steps) {
        String[] texts = lines.split("\n");
        String[] all = new String[texts.length + 1 + steps.length];
        for (int k = 0; k < texts.length; k++) {
            all[k] = "> " + texts[k] + " -> " + (k + 1);
        }
        all[texts.length] = "run -> " + due;
        System.arraycopy(steps, 0, all, texts.length + 1, steps.length);
        play(title, all);
    }

    /** What one expression comes to, behind lines that are entered before it. */
    void value(String expression, String due) {
        boolean isThrown = due.endsWith("Exception");
        program(expression, "10 PRINT " + expression, isThrown ? due : "1",
                isThrown ? "count 3 -> 0" : "printed 0 -> " + due);
    }

    void wrongLine(String text, int place) {
        play(text, "> " + text + " -> IllegalArgumentException", "errorAt -> " + place,
                "count 0 -> 0", "count 1 -> 0");
    }

    void rightLine(String text) {
        play(text, "> " + text + " -> 1", "errorAt -> -1", "count 0 -> 0", "count 1 -> 1");
    }

    void finish() {
        System.out.println(wrong == 0 ? played + " answers are as due" : wrong + " answers are not as due");
        if (wrong != 0 || played == 0) {
            System.exit(1);
        }
    }

    private static boolean isSame(String got, String due) {
        if (got.endsWith("Exception") || due.endsWith("Exception")) {
            return got.equals(due);
        }
        return Double.parseDouble(got) == Double.parseDouble(due);
    }

    private static String answer(BasicMachine machine, String call) {
        try {
            if (call.startsWith(">")) {
                for (int k = 2; k < call.length(); k++) {
                    machine.type(call.charAt(k));
                }
                return "" + machine.enter();
            }
            String[] parts = call.split(" ");
            int[] a = new int[3];
            for (int k = 1; k < parts.length; k++) {
                a[k - 1] = Integer.parseInt(parts[k]);
            }
            return faceAnswer(machine, parts[0], a);
        } catch (RuntimeException e) {
            return e.getClass().getSimpleName();
        }
    }

    private static String faceAnswer(BasicMachine machine, String name, int[] a) {
        switch (name) {
            case "type": return "" + machine.type(a[0]);
            case "enter": return "" + machine.enter();
            case "errorAt": return "" + machine.errorAt();
            case "wipe": return "" + machine.wipe();
            case "run": return "" + machine.run();
            case "printed": return "" + machine.printed(a[0]);
            case "variable": return "" + machine.variable(a[0]);
            case "element": return "" + machine.element(a[0], a[1], a[2]);
            case "at": return "" + machine.at();
            case "count": return "" + machine.count(a[0]);
            default: throw new IllegalArgumentException("no such call in a test: " + name);
        }
    }
}
