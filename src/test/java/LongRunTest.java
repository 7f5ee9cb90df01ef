/** One object with exactly 512 calls: first a full table is built, then every question is asked of it in turn. */
public final class LongRunTest {
    private static final int CALLS = 512;
    private static final int COLUMNS = 4;

    private final TableColumnBalancer x = new TableColumnBalancer();
    private final Model model = new Model();
    private int calls = 0;
    private int wrong = 0;

    public static void main(String[] args) {
        LongRunTest test = new LongRunTest();
        test.build();
        for (int round = 0; test.calls < CALLS; round++) {
            test.ask(round);
        }
        System.out.println(test.calls + " calls, " + test.wrong + " answers that are not as due");
        if (test.wrong != 0 || test.calls != CALLS) {
            System.exit(1);
        }
    }

    private void call(String name, int... arguments) {
        if (calls < CALLS) {
            calls++;
            String due = model.answer(name, arguments);
            String answer = Calls.answer(x, name, arguments);
            if (!answer.equals(due)) {
                wrong++;
                System.out.println("call " + calls + ": " + name + " answered " + answer + ", due is " + due);
            }
        }
    }

    private void build() {
        call("setColumns", COLUMNS);
        call("setMeasure", 0, 36);
        for (int row = 0; row < 6; row++) {
            call("addRow");
        }
        for (int cell = 0; cell < 16; cell++) {
            int column = cell % COLUMNS;
            boolean wide = cell / COLUMNS == 3 && column < 3;
            call("addCell", cell / COLUMNS + (wide ? column : 0), wide ? 0 : column, wide ? 2 : 1, cell % 6);
            for (int word = 0; word < 1 + cell % 5; word++) {
                call("addWord", cell, 1 + (cell + word) % 4, (cell + 2 * word) % 4);
            }
            call("setSize", cell, 1 + cell % 5, 1 + cell % 7);
        }
        call("save");
    }

    private void ask(int round) {
        int cell = round % 16;
        String[] ofNothing = {"bestHeight", "autoHeight", "improvements", "critical", "densityBits", "conflicts"};
        for (String name : ofNothing) {
            call(name);
        }
        call("raggednessBits", cell);
        call("costOfWord", cell, 1 + round % 12);
        call("tallest", round % 6);
        call("rowHeight", round % 6, round & 1);
        call("bestWidth", round % COLUMNS);
        call("autoWidth", round % COLUMNS);
        call("heightAt", 36 - round);
        call("narrowest", 40 - round);
        call("improvement", round % 4);
        call("heightFor", 9, 9, 9, 9);
        call("nextStep", cell, 6 + round % 8);
        call("makeClip", round & 1, 4 * (round & 1), 3);
        call("copyTo", round & 1, round % 3, cell);
        call("removeCell", (7 * round + 3) % 16);
        call("paste", round & 1, round % 3, round % 6, round % COLUMNS);
        call("append", Calls.packed("pad="));
        call("append", Calls.packed((round % 3) + ";"));
        call("execute");
        if (round % 4 == 3) {
            call("restore");
        }
    }
}
