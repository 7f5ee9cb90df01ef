import java.util.regex.Matcher;
import java.util.regex.Pattern;

/**
 * Runs calls that are written one to a line, each with the answer that is due:
 * <pre>
 * addRow() 0
 * removeCell(3) !IndexOutOfBoundsException
 * raggednessBits(0) float 0.25
 * densityBits() double 12/56
 * run "row;row;" 2         appends the text, executes it, and expects this number and no error
 * run "rows;" form 0       a form error at this position
 * run "cell01p=a;" execution 0
 * new                      goes on with a new object
 * </pre>
 * After each call that throws, the state must be as it was before.
 */
final class Promise {
    private static final Pattern CALL = Pattern.compile("(\\w+)\\(([^)]*)\\) (.+)");
    private static final Pattern RUN = Pattern.compile("run \"(.*)\" (form |execution )?(-?\\d+)");
    private static int wrong = 0;

    private Promise() {
    }

    static void check(int number, String calls) {
        TableColumnBalancer x = new TableColumnBalancer();
        for (String line : calls.split("\n")) {
            String call = line.strip();
            if (call.equals("new")) {
                x = new TableColumnBalancer();
            } else if (call.startsWith("run")) {
                run(number, x, call);
            } else if (!call.isEmpty() && !call.startsWith("#")) {
                call(number, x, call);
            }
        }
    }

    static void due(int number, String what, String answer, String due) {
        if (!answer.equals(due)) {
            wrong++;
            System.out.println("promise " + number + ": " + what + " answered " + answer + ", due is " + due);
        }
    }

    static void end() {
        System.out.println(wrong == 0 ? "all answers are as due" : wrong + " answers are not as due");
        if (wrong != 0) {
            System.exit(1);
        }
    }

    private static void call(int number, TableColumnBalancer x, String line) {
        Matcher parts = CALL.matcher(line);
        if (!parts.matches()) {
            throw new IllegalArgumentException("not a call: " + line);
        }
        String name = parts.group(1);
        String due = dueAnswer(parts.group(3).strip());
        boolean throwing = due.startsWith("throws.");
        boolean withText = !name.equals("execute");
        String before = throwing ? Calls.fingerprint(x, withText) : "";
        due(number, line, Calls.answer(x, name, arguments(parts.group(2))), due);
        if (throwing) {
            due(number, line + ", the state after it", Calls.fingerprint(x, withText), before);
        }
    }

    private static void run(int number, TableColumnBalancer x, String line) {
        Matcher parts = RUN.matcher(line);
        if (!parts.matches()) {
            throw new IllegalArgumentException("not a run: " + line);
        }
        String before = Calls.fingerprint(x, false);
        for (int packed : Calls.packed(parts.group(1))) {
            Calls.answer(x, "append", packed);
        }
        String kind = parts.group(2) == null ? "" : parts.group(2).strip();
        String error = kind.equals("form") ? "throws.IllegalArgumentException" : "throws.IllegalStateException";
        due(number, line, x.append(0) > 60 ? "" : Calls.answer(x, "execute"), kind.isEmpty() ? parts.group(3) : error);
        due(number, line + ", errorPosition()", Calls.answer(x, "errorPosition"), kind.isEmpty() ? "-1" : parts.group(3));
        due(number, line + ", the buffer after it", Calls.answer(x, "append", 0), "0");
        if (!kind.isEmpty()) {
            due(number, line + ", the state after it", Calls.fingerprint(x, false), before);
        }
    }

    private static String dueAnswer(String written) {
        if (written.startsWith("!")) {
            return "throws." + written.substring(1);
        }
        if (written.startsWith("float ")) {
            return String.valueOf(Float.floatToIntBits(Float.parseFloat(written.substring(6))));
        }
        if (written.startsWith("double ")) {
            String[] parts = written.substring(7).split("/");
            double quotient = Double.parseDouble(parts[0]) / Double.parseDouble(parts[1]);
            return String.valueOf(Double.doubleToLongBits(quotient));
        }
        return written;
    }

    private static int[] arguments(String list) {
        if (list.isBlank()) {
            return new int[0];
        }
        String[] parts = list.split(",");
        int[] values = new int[parts.length];
        for (int i = 0; i < parts.length; i++) {
            String part = parts[i].strip();
            values[i] = part.equals("true") ? 1 : part.equals("false") ? 0 : Integer.decode(part);
        }
        return values;
    }
}
