import java.util.ArrayDeque;
import java.util.Deque;
import java.util.Random;

/** Makes calls for one object: mostly sensible ones, some at the edges of what is allowed, and some far outside. */
final class RandomCalls {
    record Call(String name, int[] arguments) {
        @Override
        public String toString() {
            StringBuilder text = new StringBuilder(name).append('(');
            for (int i = 0; i < arguments.length; i++) {
                text.append(i == 0 ? "" : ", ").append(arguments[i]);
            }
            return text.append(')').toString();
        }
    }

    private static final String[] CHANGES = {"setColumns", "setMeasure", "setColumn", "setColumn", "addRow",
        "addCell", "addCell", "addCell", "addCell", "removeCell", "addWord", "addWord", "addWord", "addWord", "addWord",
        "addWord", "addWord", "clearWords", "setSize", "setSize", "setKind", "makeClip", "copyTo", "paste", "save", "restore",
        "paste", "paste"};
    private static final String[] QUESTIONS = {"errorPosition", "count", "property", "cellAt", "lineCount", "lineLength",
        "cellHeight", "nextStep", "columnWidth", "conflicts", "guess", "autoWidth", "autoHeight", "bestWidth", "bestHeight",
        "rowHeight", "tallest", "heightFor", "heightAt", "narrowest", "improvements", "improvement", "critical",
        "costOfWord", "raggednessBits", "densityBits"};
    private static final int[] EXTREMES = {Integer.MIN_VALUE, -100, -1, 0, 1, 2, 3, 4, 5, 6, 7, 16, 20, 21, 36, 37, 99, 100,
        101, 1000, Integer.MAX_VALUE};

    private final Random random;
    private final TableColumnBalancer x;
    private final Deque<Call> planned = new ArrayDeque<>();
    private final int changes;
    private final int wild;
    private final int longest;
    private final int largest;

    RandomCalls(long seed, TableColumnBalancer x) {
        this.random = new Random(seed);
        this.x = x;
        changes = 30 + random.nextInt(50);
        wild = random.nextInt(12);
        longest = new int[] {12, 6, 4, 2}[random.nextInt(4)];
        largest = new int[] {20, 8, 5, 3}[random.nextInt(4)];
        plan("setColumns", 1 + random.nextInt(4));
        if (random.nextInt(4) > 0) {
            plan("setMeasure", 0, 36 - random.nextInt(6));
        }
        if (random.nextBoolean()) {
            plan("makeClip", 0, 0, 3);
            plan("makeClip", 1, 4, 2);
        }
        for (int rows = random.nextInt(7); rows > 0; rows--) {
            plan("addRow");
        }
    }

    Call next() {
        if (!planned.isEmpty()) {
            return planned.remove();
        }
        int choice = random.nextInt(100);
        if (choice < 6) {
            planText();
            return planned.remove();
        }
        return choice < changes ? change(CHANGES[random.nextInt(CHANGES.length)])
            : question(QUESTIONS[random.nextInt(QUESTIONS.length)]);
    }

    private void plan(String name, int... arguments) {
        planned.add(new Call(name, arguments));
    }

    private Call call(String name, int... arguments) {
        for (int i = 0; i < arguments.length; i++) {
            if (random.nextInt(100) < wild) {
                arguments[i] = random.nextBoolean() ? EXTREMES[random.nextInt(EXTREMES.length)]
                    : arguments[i] + random.nextInt(5) - 2;
            }
        }
        return new Call(name, arguments);
    }

    private int upTo(int most) {
        return random.nextInt(Math.max(0, most) + 1);
    }

    private int from(int least, int most) {
        return least + upTo(most - least);
    }

    private int row() {
        return upTo(x.count(1) - 1);
    }

    private int column() {
        return upTo(x.count(0) - 1);
    }

    private int cell() {
        return upTo(x.count(2) - 1);
    }

    /** A cell with words or one without, if there is such a one. */
    private int cellOf(boolean text) {
        int cell = cell();
        for (int tries = 0; tries < 4 && x.count(2) > 0 && x.property(cell, 3) < 4 != text; tries++) {
            cell = cell();
        }
        return cell;
    }

    private Call change(String name) {
        int column = column();
        return switch (name) {
            case "setColumns" -> call(name, from(1, 4));
            case "setMeasure" -> {
                int what = upTo(2);
                yield call(name, what, what == 0 ? from(8, 36) : upTo(2));
            }
            case "setColumn" -> {
                int type = random.nextInt(4) == 0 ? 1 : 2 * upTo(1);
                yield call(name, column, type, type == 1 ? from(1, random.nextInt(4) > 0 ? 9 : 36) : from(1, 100));
            }
            case "addCell" -> call(name, row(), column, random.nextInt(3) == 0 ? from(1, x.count(0) - column) : 1, upTo(5));
            case "removeCell", "clearWords" -> random.nextInt(4) == 0 ? call(name, cell()) : call("addRow");
            case "addWord" -> call(name, cellOf(true), from(1, longest), upTo(3));
            case "setSize" -> call(name, cellOf(false), from(1, largest), from(1, largest));
            case "setKind" -> {
                int cell = cell();
                boolean text = x.count(2) == 0 || x.property(cell, 3) < 4;
                yield call(name, cell, text ? upTo(3) : from(4, 5));
            }
            case "makeClip" -> {
                if (random.nextInt(6) > 0) {
                    yield call("copyTo", upTo(1), upTo(2), cell());
                }
                yield call(name, upTo(1), random.nextInt(3) == 0 ? upTo(5) : 4 * upTo(1), upTo(3));
            }
            case "copyTo" -> call(name, upTo(1), upTo(2), cell());
            case "paste" -> call(name, upTo(1), upTo(2), row(), column);
            case "restore" -> random.nextInt(3) == 0 ? call(name) : call("save");
            default -> call(name);
        };
    }

    private Call question(String name) {
        boolean text = name.startsWith("line") || name.equals("costOfWord") || name.equals("raggednessBits");
        int cell = text ? cellOf(true) : cell();
        int minimum = x.count(2) == 0 ? 0 : x.property(cell, 5);
        int pad = x.setMeasure(2, 0);
        x.setMeasure(2, pad);
        return switch (name) {
            case "count" -> call(name, upTo(2));
            case "property" -> call(name, cell, upTo(6));
            case "cellAt" -> call(name, row(), column());
            case "lineCount" -> call(name, cell, from(minimum - 2 * pad, minimum + 20));
            case "lineLength" -> call(name, cell, from(minimum - 2 * pad, minimum + 20), upTo(4));
            case "cellHeight", "nextStep" -> call(name, cell, from(minimum, minimum + 20));
            case "columnWidth" -> call(name, column(), upTo(2));
            case "guess" -> call(name, upTo(3), column() - upTo(1));
            case "autoWidth", "bestWidth" -> call(name, column());
            case "rowHeight" -> new Call(name, new int[] {call(name, row()).arguments[0], upTo(1)});
            case "tallest" -> call(name, row());
            case "heightFor" -> call(name, width(0), width(1), width(2), width(3));
            case "heightAt" -> call(name, from(8, 36));
            case "narrowest" -> call(name, from(1, 40));
            case "improvement" -> call(name, upTo(4));
            case "costOfWord" -> call(name, cell, from(1, 12));
            case "raggednessBits" -> call(name, cell);
            default -> call(name);
        };
    }

    private int width(int column) {
        return column < x.count(0) ? from(x.columnWidth(column, 0), 36) : upTo(40);
    }

    // ---- texts ----

    private void planText() {
        StringBuilder text = new StringBuilder();
        for (int commands = from(1, 4); commands > 0; commands--) {
            String command = command();
            if (text.length() + command.length() <= (random.nextInt(30) == 0 ? 70 : 60)) {
                text.append(command);
            }
        }
        for (int spoils = text.length() > 0 && random.nextInt(4) == 0 ? from(1, 2) : 0; spoils > 0; spoils--) {
            spoil(text);
        }
        for (int from = 0; from < text.length(); from += 4) {
            int packed = Calls.packed(text.substring(from, Math.min(from + 4, text.length())));
            plan("append", random.nextInt(40) == 0 ? packed << 8 : packed);
        }
        if (random.nextInt(8) > 0) {
            plan("execute");
        }
        plan("errorPosition");
    }

    private String command() {
        int column = random.nextInt(30) == 0 ? upTo(9) : column();
        int span = random.nextInt(30) == 0 ? upTo(9) : random.nextInt(3) > 0 ? 1 : from(1, x.count(0) - column);
        return switch (random.nextInt(12)) {
            case 0 -> "width=" + number(8, 36) + ";";
            case 1 -> "gap=" + number(0, 2) + ";";
            case 2 -> "pad=" + number(0, 2) + ";";
            case 3 -> "col" + column + "=" + (random.nextInt(3) > 0 ? "auto;" : "fix" + number(1, 36) + ";");
            case 4 -> "col" + column + "=pct" + number(1, 99) + ";";
            case 5 -> "row;";
            case 6 -> "pic" + column + span + "=" + number(1, 20) + "x" + number(1, 20) + ";";
            default -> "cell" + column + span + "phqc".charAt(upTo(3)) + "=" + words() + ";";
        };
    }

    private String number(int least, int most) {
        return String.valueOf(random.nextInt(40) == 0 ? upTo(120) : from(least, most));
    }

    private String words() {
        StringBuilder text = new StringBuilder();
        int words = random.nextInt(12) == 0 ? from(10, 14) : from(1, 6);
        for (int word = 0; word < words; word++) {
            text.append(word == 0 ? "" : String.valueOf("_/~-".charAt(upTo(3))));
            for (int letters = random.nextInt(60) == 0 ? from(11, 14) : from(1, 4); letters > 0; letters--) {
                text.append((char) ('a' + random.nextInt(26)));
            }
        }
        return text.toString();
    }

    private void spoil(StringBuilder text) {
        String signs = "abcwxz0123456789=;_/~-!A{`~:";
        char sign = signs.charAt(random.nextInt(signs.length()));
        int at = random.nextInt(text.length());
        switch (random.nextInt(5)) {
            case 0 -> text.setLength(at);
            case 1 -> text.deleteCharAt(at);
            case 2 -> text.insert(at, sign);
            default -> text.setCharAt(at, sign);
        }
        if (text.length() == 0) {
            text.append(sign);
        }
    }
}
