import java.lang.reflect.Method;
import java.lang.reflect.Modifier;
import java.util.Arrays;
import java.util.List;

/**
 * Every method in a few states with all combinations of arguments inside, at the edges and far outside of what is
 * allowed, the least and the greatest int among them; each answer is compared with that of the model.
 */
public final class ExtremesTest {
    private static final int[] VALUES = {Integer.MIN_VALUE, -2, -1, 0, 1, 2, 3, 4, 5, 6, 7, 12, 13, 16, 20, 21, 36, 37, 99, 100,
        101, Integer.MAX_VALUE};
    private static final int[] FEWER_VALUES = {Integer.MIN_VALUE, -1, 0, 1, 2, 3, 4, 5, 6, 36, 37, Integer.MAX_VALUE};
    private static final List<String> CHANGES = List.of("set", "add", "remove", "clear", "append", "make", "copy", "paste",
        "save", "restore");
    private static final int[] TRUTHS = {0, 1};
    /** Calls, one to a row; run appends a text and executes it. */
    private static final String[] STATES = {"", """
        run row;cell01p=ab_c;pic11=9x7;row;
        makeClip 0 0 2
        copyTo 0 1 0
        makeClip 1 4 1
        copyTo 1 0 1
        save
        """, """
        setColumns 4
        run row;row;row;row;row;row;
        """ + rowsOfThree() + """
        addCell 5 0 1 0
        """ + "addWord 15 1 0\n".repeat(12) + """
        makeClip 0 0 3
        copyTo 0 2 15
        append 1633771873
        """, """
        setColumns 4
        setMeasure 0 8
        setMeasure 1 2
        run row;cell01p=a;pic11=2x2;
        save
        """};

    private final String state;
    private TableColumnBalancer x;
    private Model model;
    private int calls = 0;
    private int wrong = 0;

    private ExtremesTest(String state) {
        this.state = state;
        build();
    }

    public static void main(String[] args) {
        int calls = 0;
        int wrong = 0;
        for (String state : STATES) {
            ExtremesTest test = new ExtremesTest(state);
            for (Method method : TableColumnBalancer.class.getDeclaredMethods()) {
                if (Modifier.isPublic(method.getModifiers())) {
                    test.vary(method, new int[method.getParameterCount()], 0);
                }
            }
            calls += test.calls;
            wrong += test.wrong;
        }
        System.out.println(calls + " calls, " + wrong + " answers that are not as due");
        if (wrong != 0) {
            System.exit(1);
        }
    }

    private void build() {
        x = new TableColumnBalancer();
        model = new Model();
        for (String row : state.lines().toList()) {
            String[] parts = row.split(" ");
            if (parts[0].equals("run")) {
                for (int from = 0; from < parts[1].length(); from += 4) {
                    both("append", Calls.packed(parts[1].substring(from, Math.min(from + 4, parts[1].length()))));
                }
                both("execute");
            } else {
                both(parts[0], Arrays.stream(parts).skip(1).mapToInt(Integer::parseInt).toArray());
            }
        }
    }

    /** Fifteen cells, three in each of five rows: of span 1 and 2, of all kinds. */
    private static String rowsOfThree() {
        StringBuilder rows = new StringBuilder();
        for (int row = 0; row < 5; row++) {
            rows.append("addCell ").append(row).append(" 0 1 ").append(row).append('\n');
            rows.append("addCell ").append(row).append(" 1 2 ").append(row == 4 ? 5 : row).append('\n');
            rows.append("addCell ").append(row).append(" 3 1 4\n");
        }
        return rows.toString();
    }

    private void both(String name, int... arguments) {
        String due = model.answer(name, arguments);
        if (due.startsWith("throws.") || !Calls.answer(x, name, arguments).equals(due)) {
            throw new IllegalStateException("in the state " + state + ": " + name + Arrays.toString(arguments));
        }
    }

    private void vary(Method method, int[] arguments, int from) {
        if (from == arguments.length) {
            compare(method.getName(), arguments);
            return;
        }
        boolean truth = method.getParameterTypes()[from] == boolean.class;
        for (int value : truth ? TRUTHS : arguments.length > 3 ? FEWER_VALUES : VALUES) {
            arguments[from] = value;
            vary(method, arguments, from + 1);
        }
    }

    private void compare(String name, int[] arguments) {
        calls++;
        String due = model.answer(name, arguments);
        String answer = Calls.answer(x, name, arguments);
        if (!answer.equals(due)) {
            wrong++;
            System.out.println("after " + state + ": " + name + Arrays.toString(arguments) + " answered " + answer
                + ", due is " + due);
        }
        // What was not refused may have changed the state.
        if (!due.startsWith("throws.") && isChange(name) || name.equals("execute")) {
            build();
        }
    }

    private static boolean isChange(String name) {
        return CHANGES.stream().anyMatch(name::startsWith);
    }
}
