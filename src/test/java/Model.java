import java.util.ArrayList;
import java.util.Arrays;
import java.util.HashMap;
import java.util.List;
import java.util.Map;
import java.util.NoSuchElementException;

/**
 * The document once more, as literally and as slowly as it can be said: every definition is computed anew from the
 * words, and the best layout is found by looking at all allowed column widths.
 */
final class Model {
    private record Word(int length, int after) {
    }

    private record Piece(int length, int after) {
    }

    private record Content(int kind, List<Word> words, int width, int height) {
    }

    private record Cell(int row, int column, int span, Content content) {
    }

    private record Column(int type, int value) {
    }

    private record State(int width, int gap, int pad, List<Column> columns, int rows, List<Cell> cells) {
    }

    private record Layout(int height, int[] widths) {
    }

    private static final class FormError extends RuntimeException {
        private static final long serialVersionUID = 1L;
        private final int position;

        private FormError(int position) {
            this.position = position;
        }
    }

    private static final class Clip {
        private int kind;
        private Content[] places;
    }

    private State now = new State(30, 1, 0, automatic(3), 0, List.of());
    private State saved = null;
    private String buffer = "";
    private int error = -1;
    private final Clip[] clips = {null, null};
    private final Map<State, Layout> bestOf = new HashMap<>();

    String answer(String name, int... a) {
        try {
            return String.valueOf(call(name, a));
        } catch (RuntimeException e) {
            return "throws." + e.getClass().getSimpleName();
        }
    }

    private long call(String name, int[] a) {
        return switch (name) {
            case "setColumns" -> setColumns(a[0]);
            case "setMeasure" -> setMeasure(a[0], a[1]);
            case "setColumn" -> setColumn(a[0], a[1], a[2]);
            case "addRow" -> addRow();
            case "addCell" -> addCell(a[0], a[1], a[2], a[3]);
            case "removeCell" -> removeCell(a[0]);
            case "addWord" -> addWord(a[0], a[1], a[2]);
            case "clearWords" -> clearWords(a[0]);
            case "setSize" -> setSize(a[0], a[1], a[2]);
            case "setKind" -> setKind(a[0], a[1]);
            case "append" -> append(a[0]);
            case "execute" -> execute();
            case "errorPosition" -> error;
            case "save" -> save();
            case "restore" -> restore();
            case "makeClip" -> makeClip(a[0], a[1], a[2]);
            case "copyTo" -> copyTo(a[0], a[1], a[2]);
            case "paste" -> paste(a[0], a[1], a[2], a[3]);
            default -> ask(name, a);
        };
    }

    private long ask(String name, int[] a) {
        return switch (name) {
            case "count" -> count(a[0]);
            case "property" -> property(a[0], a[1]);
            case "cellAt" -> cellAt(a[0], a[1]);
            case "lineCount" -> linesAsked(a[0], a[1]).size();
            case "lineLength" -> lineLength(a[0], a[1], a[2]);
            case "cellHeight" -> cellHeight(a[0], a[1]);
            case "nextStep" -> nextStep(a[0], a[1]);
            case "columnWidth" -> columnWidth(a[0], a[1]);
            case "conflicts" -> conflicts();
            case "guess" -> guess(a[0], a[1]);
            case "autoWidth" -> autoWidth(a[0]);
            case "autoHeight" -> tableHeight(now, autoLayout());
            case "bestWidth" -> bestWidth(a[0]);
            case "bestHeight" -> bestLayout().height();
            case "rowHeight" -> rowHeight(a[0], a[1] != 0);
            case "tallest" -> tallest(a[0]);
            case "heightFor" -> heightFor(a);
            case "heightAt" -> heightAt(a[0]);
            case "narrowest" -> narrowest(a[0]);
            case "improvements" -> improving().size();
            case "improvement" -> improvement(a[0]);
            case "critical" -> critical();
            case "costOfWord" -> costOfWord(a[0], a[1]);
            case "raggednessBits" -> Float.floatToIntBits(raggedness(a[0]));
            case "densityBits" -> Double.doubleToLongBits(density());
            default -> throw new AssertionError(name);
        };
    }

    // ---- state changes ----

    private static List<Column> automatic(int number) {
        List<Column> columns = new ArrayList<>();
        for (int i = 0; i < number; i++) {
            columns.add(new Column(0, 0));
        }
        return columns;
    }

    private int setColumns(int number) {
        argument(number >= 1 && number <= 4);
        state(now.cells.isEmpty());
        int previous = now.columns.size();
        now = new State(now.width, now.gap, now.pad, automatic(number), now.rows, now.cells);
        return previous;
    }

    private int setMeasure(int what, int value) {
        index(what >= 0 && what <= 2);
        int[] least = {8, 0, 0};
        int[] most = {36, 2, 2};
        argument(value >= least[what] && value <= most[what]);
        int[] measures = {now.width, now.gap, now.pad};
        int previous = measures[what];
        measures[what] = value;
        now = withMeasures(now, measures);
        return previous;
    }

    private static State withMeasures(State s, int[] measures) {
        return new State(measures[0], measures[1], measures[2], s.columns, s.rows, s.cells);
    }

    private int setColumn(int column, int type, int value) {
        index(column >= 0 && column < now.columns.size());
        argument(type >= 0 && type <= 2);
        argument(type == 0 || value >= 1 && value <= (type == 1 ? 36 : 100));
        Column previous = now.columns.get(column);
        now = withColumn(now, column, new Column(type, type == 0 ? 0 : value));
        return previous.type * 100 + previous.value;
    }

    private static State withColumn(State s, int number, Column column) {
        List<Column> columns = new ArrayList<>(s.columns);
        columns.set(number, column);
        return new State(s.width, s.gap, s.pad, columns, s.rows, s.cells);
    }

    private int addRow() {
        state(now.rows < 6);
        now = withRows(now, now.rows + 1);
        return now.rows - 1;
    }

    private static State withRows(State s, int rows) {
        return new State(s.width, s.gap, s.pad, s.columns, rows, s.cells);
    }

    private static State withCells(State s, List<Cell> cells) {
        return new State(s.width, s.gap, s.pad, s.columns, s.rows, cells);
    }

    private static State withCell(State s, Cell cell) {
        List<Cell> cells = new ArrayList<>(s.cells);
        cells.add(cell);
        return withCells(s, cells);
    }

    private static State withoutCell(State s, int number) {
        List<Cell> cells = new ArrayList<>(s.cells);
        cells.remove(number);
        return withCells(s, cells);
    }

    private static State withContent(State s, int number, Content content) {
        List<Cell> cells = new ArrayList<>(s.cells);
        Cell old = cells.get(number);
        cells.set(number, new Cell(old.row, old.column, old.span, content));
        return withCells(s, cells);
    }

    private static boolean fits(State s, int row, int column, int span) {
        for (int c = column; c < column + span; c++) {
            if (occupant(s, row, c) >= 0) {
                return false;
            }
        }
        return s.cells.size() < 16;
    }

    private int addCell(int row, int column, int span, int kind) {
        index(row >= 0 && row < now.rows && column >= 0 && column < now.columns.size());
        argument(kind >= 0 && kind <= 5 && span >= 1 && (long) column + span <= now.columns.size());
        state(fits(now, row, column, span));
        now = withCell(now, new Cell(row, column, span, new Content(kind, List.of(), 1, 1)));
        return now.cells.size() - 1;
    }

    private int removeCell(int cell) {
        cell(cell);
        now = withoutCell(now, cell);
        return now.cells.size();
    }

    private int addWord(int cell, int length, int after) {
        Content content = text(cell);
        argument(length >= 1 && length <= 12 && after >= 0 && after <= 3);
        state(content.words.size() < 12);
        now = withContent(now, cell, withWord(content, new Word(length, after)));
        return content.words.size() + 1;
    }

    private static Content withWord(Content content, Word word) {
        List<Word> words = new ArrayList<>(content.words);
        words.add(word);
        return new Content(content.kind, words, content.width, content.height);
    }

    private int clearWords(int cell) {
        Content content = text(cell);
        now = withContent(now, cell, new Content(content.kind, List.of(), 1, 1));
        return content.words.size();
    }

    private int setSize(int cell, int width, int height) {
        Content content = cell(cell).content;
        support(content.kind >= 4);
        argument(width >= 1 && width <= 20 && height >= 1 && height <= 20);
        now = withContent(now, cell, new Content(content.kind, List.of(), width, height));
        return content.width * 100 + content.height;
    }

    private int setKind(int cell, int kind) {
        Content content = cell(cell).content;
        argument(kind >= 0 && kind <= 5);
        support(content.kind <= 3 == kind <= 3);
        now = withContent(now, cell, new Content(kind, content.words, content.width, content.height));
        return content.kind;
    }

    private int append(int packed) {
        StringBuilder more = new StringBuilder();
        for (byte b : java.nio.ByteBuffer.allocate(4).putInt(packed).array()) {
            if (b != 0) {
                argument(b >= 33 && b <= 126);
                more.append((char) b);
            }
        }
        state(buffer.length() + more.length() <= 60);
        buffer += more;
        return buffer.length();
    }

    private int makeClip(int clip, int kind, int size) {
        index(clip == 0 || clip == 1);
        argument(kind >= 0 && kind <= 5 && size >= 0 && size <= 3);
        clips[clip] = new Clip();
        clips[clip].kind = kind;
        clips[clip].places = new Content[size];
        return size;
    }

    private int copyTo(int clip, int place, int cell) {
        index(clip == 0 || clip == 1);
        Content content = cell(cell).content;
        state(clips[clip] != null);
        element(place >= 0 && place < clips[clip].places.length);
        List<Integer> ancestors = List.of(content.kind, content.kind <= 3 ? 0 : 4);
        argument(ancestors.contains(clips[clip].kind));
        clips[clip].places[place] = content;
        return content.kind;
    }

    private int paste(int clip, int place, int row, int column) {
        index(clip == 0 || clip == 1);
        index(row >= 0 && row < now.rows && column >= 0 && column < now.columns.size());
        element(clips[clip] != null && place >= 0 && place < clips[clip].places.length);
        element(clips[clip].places[place] != null);
        state(fits(now, row, column, 1));
        now = withCell(now, new Cell(row, column, 1, clips[clip].places[place]));
        return now.cells.size() - 1;
    }

    private int save() {
        saved = now;
        return now.cells.size();
    }

    private int restore() {
        state(saved != null);
        now = saved;
        return now.cells.size();
    }

    // ---- text ----

    private int execute() {
        String text = buffer;
        buffer = "";
        error = -1;
        List<Command> commands;
        try {
            commands = new Reader(text, now.columns.size()).commands();
        } catch (FormError e) {
            error = e.position;
            throw new IllegalArgumentException();
        }
        State before = now;
        for (Command command : commands) {
            State after = command.change.on(now);
            if (after == null) {
                now = before;
                error = command.start;
                throw new IllegalStateException();
            }
            now = after;
        }
        return commands.size();
    }

    private interface Change {
        /** The state afterwards, or null if the command cannot be executed. */
        State on(State s);
    }

    private record Command(int start, Change change) {
    }

    private static final class Reader {
        private final String text;
        private final int columns;
        private int at = 0;

        private Reader(String text, int columns) {
            this.text = text;
            this.columns = columns;
        }

        private List<Command> commands() {
            List<Command> all = new ArrayList<>();
            while (all.isEmpty() || at < text.length()) {
                int start = at;
                all.add(new Command(start, command(word())));
            }
            return all;
        }

        private Change command(String name) {
            int start = at - name.length();
            switch (name) {
                case "width", "gap", "pad" -> {
                    return measure(List.of("width", "gap", "pad").indexOf(name));
                }
                case "col" -> {
                    return column();
                }
                case "row" -> {
                    sign(";");
                    return s -> s.rows == 6 ? null : withRows(s, s.rows + 1);
                }
                case "cell" -> {
                    return cell();
                }
                case "pic" -> {
                    return picture();
                }
                default -> throw new FormError(start);
            }
        }

        private Change measure(int what) {
            sign("=");
            int value = number(what == 0 ? 8 : 0, what == 0 ? 36 : 2);
            sign(";");
            return s -> {
                int[] measures = {s.width, s.gap, s.pad};
                measures[what] = value;
                return withMeasures(s, measures);
            };
        }

        private Change column() {
            int column = digit(0, columns - 1);
            sign("=");
            int start = at;
            int type = List.of("auto", "fix", "pct").indexOf(word());
            if (type < 0) {
                throw new FormError(start);
            }
            int value = type == 0 ? 0 : number(1, type == 1 ? 36 : 99);
            sign(";");
            return s -> withColumn(s, column, new Column(type, value));
        }

        private Change cell() {
            int column = digit(0, columns - 1);
            int span = digit(1, columns - column);
            int kind = "phqc".indexOf(sign("phqc"));
            sign("=");
            List<Word> words = new ArrayList<>();
            int length = length();
            while (words.size() < 11 && at < text.length() && "_/~-".indexOf(text.charAt(at)) >= 0) {
                words.add(new Word(length, "_/~-".indexOf(sign("_/~-"))));
                length = length();
            }
            words.add(new Word(length, 0));
            sign(";");
            return put(column, span, new Content(kind, words, 1, 1));
        }

        private Change picture() {
            int column = digit(0, columns - 1);
            int span = digit(1, columns - column);
            sign("=");
            int width = number(1, 20);
            sign("x");
            int height = number(1, 20);
            sign(";");
            return put(column, span, new Content(4, List.of(), width, height));
        }

        private static Change put(int column, int span, Content content) {
            return s -> {
                boolean possible = s.rows > 0 && fits(s, s.rows - 1, column, span);
                return possible ? withCell(s, new Cell(s.rows - 1, column, span, content)) : null;
            };
        }

        private String word() {
            String rest = text.substring(at);
            String letters = rest.substring(0, rest.length() - rest.replaceFirst("^[a-z]*", "").length());
            at += letters.length();
            return letters;
        }

        private int length() {
            int start = at;
            while (at < text.length() && at < start + 12 && text.substring(at, at + 1).matches("[a-z]")) {
                at++;
            }
            if (at == start) {
                throw new FormError(at);
            }
            return at - start;
        }

        private char sign(String allowed) {
            if (at >= text.length() || allowed.indexOf(text.charAt(at)) < 0) {
                throw new FormError(at);
            }
            at++;
            return text.charAt(at - 1);
        }

        private int digit(int least, int most) {
            int digit = sign("0123456789") - '0';
            if (digit < least || digit > most) {
                throw new FormError(at - 1);
            }
            return digit;
        }

        private int number(int least, int most) {
            int start = at;
            String digits = String.valueOf(sign("0123456789"));
            if (!digits.equals("0") && at < text.length() && Character.isDigit(text.charAt(at))) {
                digits += sign("0123456789");
            }
            int value = Integer.parseInt(digits);
            if (value < least || value > most) {
                throw new FormError(start);
            }
            return value;
        }
    }

    // ---- contents ----

    private static int indent(Content content) {
        return content.kind == 2 ? 2 : 0;
    }

    private static List<Piece> pieces(Content content) {
        List<Piece> pieces = new ArrayList<>();
        int from = 0;
        while (from < content.words.size()) {
            int to = from;
            int length = content.words.get(from).length;
            while (to + 1 < content.words.size() && isInside(content, content.words.get(to).after)) {
                length += content.words.get(to).after == 3 ? 0 : 1;
                to++;
                length += content.words.get(to).length;
            }
            pieces.add(new Piece(length, content.words.get(to).after));
            from = to + 1;
        }
        return pieces;
    }

    private static boolean isInside(Content content, int after) {
        return after == 2 || content.kind == 3 && (after == 0 || after == 3);
    }

    /** The length of the line of these pieces, or -1 if there is a line end between them. */
    private static int line(List<Piece> pieces, int first, int last) {
        int length = 0;
        for (int i = first; i <= last; i++) {
            length += pieces.get(i).length;
            if (i < last) {
                if (pieces.get(i).after == 1) {
                    return -1;
                }
                length += pieces.get(i).after == 0 ? 1 : 0;
            }
        }
        return length + (pieces.get(last).after == 3 && last != pieces.size() - 1 ? 1 : 0);
    }

    private static int minimum(Content content) {
        if (content.kind >= 4) {
            return content.kind == 4 ? (int) Math.ceil(content.width / 2.0) : content.width;
        }
        List<Piece> pieces = pieces(content);
        int greatest = 0;
        for (int i = 0; i < pieces.size(); i++) {
            greatest = Math.max(greatest, line(pieces, i, i));
        }
        return indent(content) + greatest;
    }

    private static int maximum(Content content) {
        if (content.kind >= 4) {
            return content.width;
        }
        List<Piece> pieces = pieces(content);
        int greatest = 0;
        for (int i = 0; i < pieces.size(); i++) {
            for (int j = i; j < pieces.size(); j++) {
                boolean begins = i == 0 || pieces.get(i - 1).after == 1;
                boolean ends = j == pieces.size() - 1 || pieces.get(j).after == 1;
                if (begins && ends) {
                    greatest = Math.max(greatest, line(pieces, i, j));
                }
            }
        }
        return indent(content) + greatest;
    }

    private static List<Integer> lines(Content content, int width) {
        List<Piece> pieces = pieces(content);
        List<Integer> lines = new ArrayList<>();
        int first = 0;
        while (first < pieces.size()) {
            int best = -1;
            for (int last = first; last < pieces.size(); last++) {
                int length = line(pieces, first, last);
                if (length >= 0 && length <= width - indent(content)) {
                    best = last;
                }
            }
            lines.add(line(pieces, first, best));
            first = best + 1;
        }
        return lines;
    }

    private static int contentHeight(Content content, int width) {
        if (content.kind <= 3) {
            return lines(content, width).size() * (content.kind == 1 ? 2 : 1);
        }
        if (content.kind == 5 || width >= content.width) {
            return content.height;
        }
        float share = (float) width / content.width;
        float height = share * content.height;
        return Math.max((int) height, 1);
    }

    private static int cellMinimum(State s, Cell cell) {
        return minimum(cell.content) + 2 * s.pad;
    }

    private static int cellMaximum(State s, Cell cell) {
        return maximum(cell.content) + 2 * s.pad;
    }

    private static int cellHeight(State s, Cell cell, int width) {
        return contentHeight(cell.content, width - 2 * s.pad) + 2 * s.pad;
    }

    private static int cellWidth(State s, Cell cell, int[] widths) {
        return Arrays.stream(widths, cell.column, cell.column + cell.span).sum() + s.gap * (cell.span - 1);
    }

    private static int rowHeight(State s, int row, int[] widths) {
        return s.cells.stream().filter(c -> c.row == row)
            .mapToInt(c -> cellHeight(s, c, cellWidth(s, c, widths))).max().orElse(0);
    }

    private static int tableHeight(State s, int[] widths) {
        int height = s.gap * (s.rows + 1);
        for (int row = 0; row < s.rows; row++) {
            height += rowHeight(s, row, widths);
        }
        return height;
    }

    // ---- columns ----

    private static int usable(State s) {
        return s.width - s.gap * (s.columns.size() + 1);
    }

    private static void share(int amount, List<Integer> among, int[] weights, int[] to) {
        int total = among.stream().mapToInt(c -> weights[c]).sum();
        int given = 0;
        for (int c : among) {
            int part = (int) Math.floor((double) amount * weights[c] / total + 1e-9);
            to[c] += part;
            given += part;
        }
        for (int c : among) {
            if (given < amount && weights[c] != 0) {
                to[c]++;
                given++;
            }
        }
    }

    private static List<Integer> ofType(State s, int from, int to, int... types) {
        List<Integer> found = new ArrayList<>();
        for (int c = from; c < to; c++) {
            int type = s.columns.get(c).type;
            if (Arrays.stream(types).anyMatch(t -> t == type)) {
                found.add(c);
            }
        }
        return found;
    }

    /** The minimums and the maximums. */
    private static int[][] bounds(State s) {
        int n = s.columns.size();
        int[] min = new int[n];
        int[] max = new int[n];
        for (int c = 0; c < n; c++) {
            int column = c;
            min[c] = s.cells.stream().filter(x -> x.span == 1 && x.column == column)
                .mapToInt(x -> cellMinimum(s, x)).max().orElse(1);
            min[c] = Math.max(1, min[c]);
            max[c] = s.cells.stream().filter(x -> x.span == 1 && x.column == column)
                .mapToInt(x -> cellMaximum(s, x)).max().orElse(1);
            max[c] = Math.max(min[c], max[c]);
            if (s.columns.get(c).type == 1) {
                max[c] = Math.max(min[c], s.columns.get(c).value);
            }
        }
        for (int span = 2; span <= n; span++) {
            for (Cell cell : s.cells) {
                if (cell.span == span) {
                    stretch(s, cell, min, max);
                }
            }
        }
        return new int[][] {min, max};
    }

    private static void stretch(State s, Cell cell, int[] min, int[] max) {
        int end = cell.column + cell.span;
        List<Integer> sharing = ofType(s, cell.column, end, 0, 2);
        if (sharing.isEmpty()) {
            sharing = ofType(s, cell.column, end, 1);
        }
        int gaps = s.gap * (cell.span - 1);
        int lack = cellMinimum(s, cell) - gaps - Arrays.stream(min, cell.column, end).sum();
        if (lack > 0) {
            share(lack, sharing, max, min);
            for (int c = 0; c < max.length; c++) {
                max[c] = Math.max(min[c], max[c]);
            }
        }
        lack = cellMaximum(s, cell) - gaps - Arrays.stream(max, cell.column, end).sum();
        if (lack > 0) {
            share(lack, sharing, max.clone(), max);
        }
    }

    private static int[] percentages(State s) {
        int[] effective = new int[s.columns.size()];
        for (int c = 0; c < effective.length; c++) {
            if (s.columns.get(c).type == 2) {
                effective[c] = Math.min(s.columns.get(c).value, 100 - Arrays.stream(effective, 0, c).sum());
            }
        }
        return effective;
    }

    private static int[][] guesses(State s) {
        int n = s.columns.size();
        int[][] bounds = bounds(s);
        int[][] g = new int[4][n];
        for (int c = 0; c < n; c++) {
            Column column = s.columns.get(c);
            g[0][c] = bounds[0][c];
            g[1][c] = column.type == 2 ? Math.max(g[0][c], usable(s) * percentages(s)[c] / 100) : g[0][c];
            g[2][c] = column.type == 1 ? Math.max(g[0][c], column.value) : g[1][c];
            g[3][c] = column.type == 0 ? bounds[1][c] : g[2][c];
        }
        return g;
    }

    private static int sum(int[] numbers) {
        return Arrays.stream(numbers).sum();
    }

    /** The automatic layout, or null. */
    private static int[] auto(State s) {
        int[][] g = guesses(s);
        int n = s.columns.size();
        int usable = usable(s);
        if (usable < sum(g[0])) {
            return null;
        }
        int k = 0;
        while (k < 4 && sum(g[k]) < usable) {
            k++;
        }
        if (k < 4 && sum(g[k]) == usable) {
            return g[k];
        }
        int[] widths = g[k - 1].clone();
        int rest = usable - sum(widths);
        List<Integer> all = ofType(s, 0, n, 0, 1, 2);
        if (k < 4) {
            int[] differences = new int[n];
            for (int c = 0; c < n; c++) {
                differences[c] = g[k][c] - g[k - 1][c];
            }
            share(rest, all, differences, widths);
        } else if (!ofType(s, 0, n, 0).isEmpty()) {
            share(rest, ofType(s, 0, n, 0), bounds(s)[1], widths);
        } else if (!ofType(s, 0, n, 1).isEmpty()) {
            share(rest, ofType(s, 0, n, 1), g[3], widths);
        } else {
            share(rest, all, Arrays.stream(percentages(s)).map(p -> p + 1).toArray(), widths);
        }
        return widths;
    }

    // ---- best layout ----

    /** The best layout, or null. */
    private Layout best(State s) {
        if (!bestOf.containsKey(s)) {
            bestOf.put(s, new Enumeration(s).best());
        }
        return bestOf.get(s);
    }

    private static final class Enumeration {
        private final State s;
        private final int[][] guesses;
        private final int[] widths;
        private final int[][] heights;
        private Layout best = null;

        private Enumeration(State s) {
            this.s = s;
            guesses = guesses(s);
            widths = new int[s.columns.size()];
            heights = new int[s.cells.size()][40];
        }

        private Layout best() {
            from(0, usable(s));
            return best;
        }

        private void from(int column, int left) {
            if (column == widths.length) {
                if (left == 0) {
                    int height = height();
                    if (best == null || height < best.height) {
                        best = new Layout(height, widths.clone());
                    }
                }
                return;
            }
            for (int width = guesses[0][column]; width <= left; width++) {
                if (s.columns.get(column).type != 1 || width == guesses[2][column]) {
                    widths[column] = width;
                    from(column + 1, left - width);
                }
            }
        }

        private int height() {
            int[] rows = new int[6];
            for (int i = 0; i < heights.length; i++) {
                Cell cell = s.cells.get(i);
                int width = s.gap * (cell.span - 1);
                for (int c = cell.column; c < cell.column + cell.span; c++) {
                    width += widths[c];
                }
                if (heights[i][width] == 0) {
                    heights[i][width] = 1 + cellHeight(s, cell, width);
                }
                rows[cell.row] = Math.max(rows[cell.row], heights[i][width] - 1);
            }
            return sum(rows) + s.gap * (s.rows + 1);
        }
    }

    private Layout bestAt(int width) {
        return best(withMeasures(now, new int[] {width, now.gap, now.pad}));
    }

    // ---- questions ----

    private int count(int what) {
        argument(what >= 0 && what <= 2);
        return new int[] {now.columns.size(), now.rows, now.cells.size()}[what];
    }

    private int property(int number, int what) {
        Cell cell = cell(number);
        argument(what >= 0 && what <= 6);
        return new int[] {cell.row, cell.column, cell.span, cell.content.kind, cell.content.words.size(),
            cellMinimum(now, cell), cellMaximum(now, cell)}[what];
    }

    private static int occupant(State s, int row, int column) {
        for (int i = 0; i < s.cells.size(); i++) {
            Cell cell = s.cells.get(i);
            if (cell.row == row && column >= cell.column && column < cell.column + cell.span) {
                return i;
            }
        }
        return -1;
    }

    private int cellAt(int row, int column) {
        index(row >= 0 && row < now.rows && column >= 0 && column < now.columns.size());
        return occupant(now, row, column);
    }

    private List<Integer> linesAsked(int cell, int width) {
        Content content = text(cell);
        argument(width <= 99 && width >= minimum(content));
        return lines(content, width);
    }

    private int lineLength(int cell, int width, int line) {
        List<Integer> lines = linesAsked(cell, width);
        element(line >= 0 && line < lines.size());
        return lines.get(line);
    }

    private int cellHeight(int number, int width) {
        Cell cell = cell(number);
        argument(width <= 99 && width >= cellMinimum(now, cell));
        return cellHeight(now, cell, width);
    }

    private int nextStep(int number, int width) {
        int present = cellHeight(number, width);
        for (int next = width + 1; next <= 99; next++) {
            if (cellHeight(number, next) < present) {
                return next;
            }
        }
        throw new NoSuchElementException();
    }

    private int columnWidth(int column, int what) {
        index(column >= 0 && column < now.columns.size());
        argument(what >= 0 && what <= 2);
        return what == 2 ? percentages(now)[column] : bounds(now)[what][column];
    }

    private int conflicts() {
        int set = 0;
        for (int c = 0; c < now.columns.size(); c++) {
            if (now.columns.get(c).type == 2 && percentages(now)[c] != now.columns.get(c).value) {
                set += (int) Math.pow(2, c);
            }
        }
        return set;
    }

    private int guess(int guess, int column) {
        argument(guess >= 0 && guess <= 3);
        index(column >= -1 && column < now.columns.size());
        return column == -1 ? sum(guesses(now)[guess]) : guesses(now)[guess][column];
    }

    private int[] autoLayout() {
        int[] widths = auto(now);
        state(widths != null);
        return widths;
    }

    private Layout bestLayout() {
        Layout layout = best(now);
        state(layout != null);
        return layout;
    }

    private int autoWidth(int column) {
        index(column >= 0 && column < now.columns.size());
        return autoLayout()[column];
    }

    private int bestWidth(int column) {
        index(column >= 0 && column < now.columns.size());
        return bestLayout().widths[column];
    }

    private int rowHeight(int row, boolean best) {
        index(row >= 0 && row < now.rows);
        return rowHeight(now, row, best ? bestLayout().widths : autoLayout());
    }

    private int tallest(int row) {
        index(row >= 0 && row < now.rows);
        int[] widths = bestLayout().widths;
        int found = -1;
        for (int i = now.cells.size() - 1; i >= 0; i--) {
            Cell cell = now.cells.get(i);
            if (cell.row == row && cellHeight(now, cell, cellWidth(now, cell, widths)) == rowHeight(now, row, widths)) {
                found = i;
            }
        }
        element(found >= 0);
        return found;
    }

    private int heightFor(int[] widths) {
        int[] used = Arrays.copyOf(widths, now.columns.size());
        for (int c = 0; c < used.length; c++) {
            argument(used[c] <= 36 && used[c] >= bounds(now)[0][c]);
        }
        return tableHeight(now, used);
    }

    private int heightAt(int width) {
        argument(width >= 8 && width <= 36);
        element(bestAt(width) != null);
        return bestAt(width).height;
    }

    private int narrowest(int height) {
        for (int width = 8; width <= 36; width++) {
            if (bestAt(width) != null && bestAt(width).height <= height) {
                return width;
            }
        }
        throw new NoSuchElementException();
    }

    private List<Integer> improving() {
        List<Integer> widths = new ArrayList<>();
        int least = Integer.MAX_VALUE;
        for (int width = 8; width <= 36; width++) {
            if (bestAt(width) != null && bestAt(width).height < least) {
                least = bestAt(width).height;
                widths.add(width);
            }
        }
        return widths;
    }

    private int improvement(int index) {
        element(index >= 0 && index < improving().size());
        return improving().get(index);
    }

    private int critical() {
        int height = bestLayout().height;
        int greatest = 0;
        int found = -1;
        for (int i = 0; i < now.cells.size(); i++) {
            Layout without = best(withoutCell(now, i));
            if (without != null && height - without.height > greatest) {
                greatest = height - without.height;
                found = i;
            }
        }
        element(found >= 0);
        return found;
    }

    private int costOfWord(int cell, int length) {
        Content content = text(cell);
        argument(length >= 1 && length <= 12);
        state(content.words.size() < 12);
        List<Word> words = new ArrayList<>(content.words);
        if (!words.isEmpty()) {
            words.set(words.size() - 1, new Word(words.get(words.size() - 1).length, 0));
        }
        words.add(new Word(length, 0));
        Layout then = best(withContent(now, cell, new Content(content.kind, words, 1, 1)));
        state(best(now) != null && then != null);
        return then.height - best(now).height;
    }

    private float raggedness(int number) {
        Content content = text(number);
        int width = cellWidth(now, now.cells.get(number), bestLayout().widths) - 2 * now.pad;
        float sum = 0;
        List<Integer> lines = lines(content, width);
        float space = width - indent(content);
        for (int length : lines) {
            float slack = space - length;
            sum += (slack / space) * (slack / space);
        }
        return lines.isEmpty() ? 0.0f : sum / lines.size();
    }

    private double density() {
        int[] widths = autoLayout();
        if (tableHeight(now, widths) == 0) {
            throw new ArithmeticException();
        }
        double ink = 0;
        for (Cell cell : now.cells) {
            Content content = cell.content;
            int width = cellWidth(now, cell, widths) - 2 * now.pad;
            ink += content.kind <= 3 ? content.words.stream().mapToInt(Word::length).sum()
                : Math.min(width, content.width) * contentHeight(content, width);
        }
        return ink / (now.width * tableHeight(now, widths));
    }

    // ---- conditions ----

    private Cell cell(int number) {
        index(number >= 0 && number < now.cells.size());
        return now.cells.get(number);
    }

    private Content text(int number) {
        Content content = cell(number).content;
        support(content.kind <= 3);
        return content;
    }

    private static void index(boolean holds) {
        if (!holds) {
            throw new IndexOutOfBoundsException();
        }
    }

    private static void argument(boolean holds) {
        if (!holds) {
            throw new IllegalArgumentException();
        }
    }

    private static void state(boolean holds) {
        if (!holds) {
            throw new IllegalStateException();
        }
    }

    private static void support(boolean holds) {
        if (!holds) {
            throw new UnsupportedOperationException();
        }
    }

    private static void element(boolean holds) {
        if (!holds) {
            throw new NoSuchElementException();
        }
    }
}
