import java.util.ArrayList;
import java.util.Arrays;
import java.util.LinkedHashSet;
import java.util.List;
import java.util.Set;
import java.util.regex.Matcher;
import java.util.regex.Pattern;

/**
 * Runs calls that are written one to a row, each with the answer that is due:
 * <pre>
 * addRow() 0
 * removeCell(3) !IndexOutOfBoundsException
 * count(&lt;0..2&gt;) !IllegalArgumentException    for ints outside these bounds: next to them, far away, the least, the greatest
 * raggednessBits(0) float 0.25
 * densityBits() double 12/56
 * append "row;" 4          appends the text, four characters at a time, and expects this length of the buffer then
 * run "row;row;" 2         appends the text, executes it, and expects this number and no error
 * run "rows;" form 0       a form error at this position
 * run "cell01p=a;" execution 0
 * times 9 addRow() 0       the call nine times
 * new                      goes on with a new object
 * </pre>
 * After each row with a call that throws, the state must be as if the calls of the row had not been made: the row's
 * predecessors are made once more for each of two other objects, which are then asked for all that they hold.
 */
final class Rows {
    private record Made(String name, int[] arguments) {
    }

    private static final Pattern CALL = Pattern.compile("(\\w+)\\(([^)]*)\\) (.+)");
    private static final Pattern RUN = Pattern.compile("run \"(.*)\" (form |execution )?(-?\\d+)");
    private static final Pattern APPEND = Pattern.compile("append \"(.+)\" (\\d+)");
    private static final Pattern TIMES = Pattern.compile("times (\\d+) (.+)");
    private static final Pattern OUTSIDE = Pattern.compile("<(-?\\d+)\\.\\.(-?\\d+)>");
    private static int wrong = 0;

    private final String where;
    private final List<Made> made = new ArrayList<>();
    private TableColumnBalancer x = new TableColumnBalancer();

    private Rows(String where) {
        this.where = where;
    }

    static void check(String where, String rows) {
        Rows checked = new Rows(where);
        for (String line : rows.split("\n")) {
            String row = line.strip();
            if (!row.isEmpty() && !row.startsWith("#")) {
                checked.row(row);
            }
        }
    }

    static void end() {
        System.out.println(wrong == 0 ? "all answers are as due" : wrong + " answers are not as due");
        if (wrong != 0) {
            System.exit(1);
        }
    }

    static void due(String what, String answer, String due) {
        if (!answer.equals(due)) {
            wrong++;
            System.out.println(what + " answered " + answer + ", due is " + due);
        }
    }

    private void row(String row) {
        Matcher times = TIMES.matcher(row);
        Matcher append = APPEND.matcher(row);
        if (row.equals("new")) {
            x = new TableColumnBalancer();
            made.clear();
        } else if (row.startsWith("run ")) {
            run(row);
        } else if (append.matches()) {
            append(append.group(1), row, append.group(2));
        } else if (times.matches()) {
            for (int time = 0; time < Integer.parseInt(times.group(1)); time++) {
                row(times.group(2));
            }
        } else {
            calls(row);
        }
    }

    private void calls(String row) {
        Matcher parts = CALL.matcher(row);
        if (!parts.matches()) {
            throw new IllegalArgumentException("not a row: " + row);
        }
        String name = parts.group(1);
        String due = dueAnswer(parts.group(3).strip());
        int before = made.size();
        Matcher outside = OUTSIDE.matcher(parts.group(2));
        if (outside.find()) {
            for (int value : outside(Integer.parseInt(outside.group(1)), Integer.parseInt(outside.group(2)))) {
                String list = outside.replaceFirst(String.valueOf(value));
                due(where + ": " + name + "(" + list + ")", call(name, arguments(list)), due);
            }
        } else {
            due(where + ": " + row, call(name, arguments(parts.group(2))), due);
        }
        if (due.startsWith("throws.")) {
            compareStates(row, before, !name.equals("execute"));
        }
    }

    private void run(String row) {
        Matcher parts = RUN.matcher(row);
        if (!parts.matches()) {
            throw new IllegalArgumentException("not a row: " + row);
        }
        int before = made.size();
        append(parts.group(1), row, String.valueOf(parts.group(1).length()));
        String kind = parts.group(2) == null ? "" : parts.group(2).strip();
        String error = kind.equals("form") ? "throws.IllegalArgumentException" : "throws.IllegalStateException";
        due(where + ": " + row, call("execute"), kind.isEmpty() ? parts.group(3) : error);
        due(where + ": " + row + ", errorPosition()", call("errorPosition"), kind.isEmpty() ? "-1" : parts.group(3));
        due(where + ": " + row + ", the buffer after it", call("append", 0), "0");
        if (!kind.isEmpty()) {
            compareStates(row, before, false);
        }
    }

    private void append(String text, String row, String due) {
        String answer = call("append", 0);
        for (int from = 0; from < text.length(); from += 4) {
            answer = call("append", Calls.packed(text.substring(from, Math.min(from + 4, text.length()))));
        }
        due(where + ": " + row + ", the length of the buffer", answer, due);
    }

    private String call(String name, int... arguments) {
        made.add(new Made(name, arguments));
        return Calls.answer(x, name, arguments);
    }

    private void compareStates(String row, int before, boolean withText) {
        due(where + ": " + row + ", the state after it", Calls.everything(again(made.size()), withText),
            Calls.everything(again(before), withText));
    }

    private TableColumnBalancer again(int calls) {
        TableColumnBalancer other = new TableColumnBalancer();
        for (Made call : made.subList(0, calls)) {
            Calls.answer(other, call.name(), call.arguments());
        }
        return other;
    }

    private static Set<Integer> outside(int least, int most) {
        Set<Integer> values = new LinkedHashSet<>(Arrays.asList(least - 1, most + 1, least - 2, most + 2, -most, -least,
            least - 100, most + 100, least - 256, least + 256, most + 256, least + 65536, most - 65536, least ^ 1 << 31,
            most ^ 1 << 31, Integer.MIN_VALUE, Integer.MIN_VALUE + 1, Integer.MAX_VALUE - 1, Integer.MAX_VALUE));
        values.removeIf(value -> value >= least && value <= most);
        return values;
    }

    private static String dueAnswer(String written) {
        if (written.startsWith("!")) {
            return "throws." + written.substring(1);
        }
        if (written.startsWith("float ")) {
            return String.valueOf(Float.floatToIntBits(Float.parseFloat(written.substring(6))));
        }
        if (written.startsWith("double ")) {
            String[] parts = written.substring(7).split("/");
            double quotient = Double.parseDouble(parts[0]) / Double.parseDouble(parts[1]);
            return String.valueOf(Double.doubleToLongBits(quotient));
        }
        return written;
    }

    private static int[] arguments(String list) {
        if (list.isBlank()) {
            return new int[0];
        }
        String[] parts = list.split(",");
        int[] values = new int[parts.length];
        for (int i = 0; i < parts.length; i++) {
            String part = parts[i].strip();
            values[i] = part.equals("true") ? 1 : part.equals("false") ? 0 : Integer.decode(part);
        }
        return values;
    }
}
