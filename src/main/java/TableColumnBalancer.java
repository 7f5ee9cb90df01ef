import java.util.Arrays;
import java.util.NoSuchElementException;

/** A layout engine for small text tables: column widths, line breaking and a search for the least table height. */
public final class TableColumnBalancer {
    private static final int MAX_COLUMNS = 4;
    private static final int MAX_ROWS = 6;
    private static final int MAX_CELLS = 16;
    private static final int MAX_WORDS = 12;
    private static final int MAX_WORD_LENGTH = 12;
    private static final int MAX_PICTURE = 20;
    private static final int MAX_GAP = 2;
    private static final int MAX_PADDING = 2;
    private static final int MIN_TABLE_WIDTH = 8;
    private static final int MAX_TABLE_WIDTH = 36;
    private static final int MAX_COLUMN_WIDTH = 36;
    private static final int MAX_ASKED_WIDTH = 99;
    private static final int MAX_TEXT = 60;
    private static final int CLIPS = 2;
    private static final int MAX_PLACES = 3;
    private static final int GUESSES = 4;

    private static final int PARAGRAPH = 0;
    private static final int HEADING = 1;
    private static final int QUOTE = 2;
    private static final int CODE = 3;
    private static final int PICTURE = 4;
    private static final int ICON = 5;

    private static final int SPACE = 0;
    private static final int LINE_END = 1;
    private static final int FIXED_SPACE = 2;
    private static final int SOFT_HYPHEN = 3;

    private static final int AUTOMATIC = 0;
    private static final int FIXED = 1;
    private static final int PROPORTIONAL = 2;

    private final Table table;
    private final Columns columns;
    private final Search search;
    /** A second table for what is only tried: texts that may fail, cells removed and words added for a question. */
    private final Table trial;
    private final Columns trialColumns;
    private final Search trialSearch;
    private final Table snapshot;
    private boolean saved;
    private final Script script;
    private final Clip[] clips;
    private final int[] givenWidths;

    public TableColumnBalancer() {
        table = new Table();
        columns = new Columns(table);
        search = new Search(table, columns);
        trial = new Table();
        trialColumns = new Columns(trial);
        trialSearch = new Search(trial, trialColumns);
        snapshot = new Table();
        script = new Script();
        clips = new Clip[CLIPS];
        for (int clip = 0; clip < CLIPS; clip++) {
            clips[clip] = new Clip();
        }
        givenWidths = new int[MAX_COLUMNS];
        columns.measure();
        search.restart(Search.ABOVE_ALL);
    }

    // ---- configuration ----

    public int setColumns(int columns) throws IllegalArgumentException, IllegalStateException {
        requireArgument(isWithin(columns, 1, MAX_COLUMNS));
        requireState(table.cellCount == 0);
        int previous = table.columnCount;
        table.restartColumns(columns);
        changed();
        return previous;
    }

    public int setMeasure(int what, int value) throws IndexOutOfBoundsException, IllegalArgumentException {
        requireIndex(isWithin(what, 0, 2));
        int previous;
        if (what == 0) {
            requireArgument(isWithin(value, MIN_TABLE_WIDTH, MAX_TABLE_WIDTH));
            previous = table.width;
            table.width = value;
        } else if (what == 1) {
            requireArgument(isWithin(value, 0, MAX_GAP));
            previous = table.gap;
            table.gap = value;
        } else {
            requireArgument(isWithin(value, 0, MAX_PADDING));
            previous = table.padding;
            table.padding = value;
        }
        changed();
        return previous;
    }

    public int setColumn(int column, int type, int value) throws IndexOutOfBoundsException, IllegalArgumentException {
        requireColumn(column);
        requireArgument(isWithin(type, AUTOMATIC, PROPORTIONAL));
        requireArgument(type != FIXED || isWithin(value, 1, MAX_COLUMN_WIDTH));
        requireArgument(type != PROPORTIONAL || isWithin(value, 1, 100));
        int previous = 100 * table.types[column] + table.values[column];
        table.specify(column, type, value);
        changed();
        return previous;
    }

    public int addRow() throws IllegalStateException {
        requireState(table.rowCount < MAX_ROWS);
        table.rowCount++;
        changed();
        return table.rowCount - 1;
    }

    public int addCell(int row, int column, int span, int kind)
            throws IndexOutOfBoundsException, IllegalArgumentException, IllegalStateException {
        requireRow(row);
        requireColumn(column);
        requireArgument(isWithin(kind, PARAGRAPH, ICON));
        requireArgument(isWithin(span, 1, table.columnCount - column));
        requireState(table.hasRoom(row, column, span));
        table.place(row, column, span).begin(kind);
        changed();
        return table.cellCount - 1;
    }

    public int removeCell(int cell) throws IndexOutOfBoundsException {
        requireCell(cell);
        table.takeOut(cell);
        changed();
        return table.cellCount;
    }

    public int addWord(int cell, int length, int breakAfter)
            throws IndexOutOfBoundsException, UnsupportedOperationException, IllegalArgumentException,
            IllegalStateException {
        Content content = textOf(cell);
        requireArgument(isWithin(length, 1, MAX_WORD_LENGTH));
        requireArgument(isWithin(breakAfter, SPACE, SOFT_HYPHEN));
        requireState(content.words < MAX_WORDS);
        content.push(length, breakAfter);
        changed();
        return content.words;
    }

    public int clearWords(int cell) throws IndexOutOfBoundsException, UnsupportedOperationException {
        Content content = textOf(cell);
        int previous = content.words;
        content.begin(content.kind);
        changed();
        return previous;
    }

    public int setSize(int cell, int width, int height)
            throws IndexOutOfBoundsException, UnsupportedOperationException, IllegalArgumentException {
        requireCell(cell);
        Content content = table.cells[cell].content;
        requireSupport(!content.isText());
        requireArgument(isWithin(width, 1, MAX_PICTURE));
        requireArgument(isWithin(height, 1, MAX_PICTURE));
        int previous = 100 * content.width + content.height;
        content.resize(width, height);
        changed();
        return previous;
    }

    public int setKind(int cell, int kind)
            throws IndexOutOfBoundsException, IllegalArgumentException, UnsupportedOperationException {
        requireCell(cell);
        requireArgument(isWithin(kind, PARAGRAPH, ICON));
        Content content = table.cells[cell].content;
        requireSupport(content.isText() == isTextKind(kind));
        int previous = content.kind;
        content.turnInto(kind);
        changed();
        return previous;
    }

    // ---- text ----

    public int append(int packed) throws IllegalArgumentException, IllegalStateException {
        int added = 0;
        for (int shift = 24; shift >= 0; shift -= 8) {
            int sign = packed >>> shift & 255;
            requireArgument(sign == 0 || isWithin(sign, 33, 126));
            added += sign == 0 ? 0 : 1;
        }
        requireState(script.length + added <= MAX_TEXT);
        for (int shift = 24; shift >= 0; shift -= 8) {
            script.push(packed >>> shift & 255);
        }
        return script.length;
    }

    public int execute() throws IllegalArgumentException, IllegalStateException {
        trial.copyFrom(table);
        int commands = script.run(trial);
        requireState(script.errorAt < 0);
        table.copyFrom(trial);
        changed();
        return commands;
    }

    public int errorPosition() {
        return script.errorAt;
    }

    // ---- cells ----

    public int count(int what) throws IllegalArgumentException {
        requireArgument(isWithin(what, 0, 2));
        if (what == 0) {
            return table.columnCount;
        }
        return what == 1 ? table.rowCount : table.cellCount;
    }

    public int property(int cell, int what) throws IndexOutOfBoundsException, IllegalArgumentException {
        requireCell(cell);
        requireArgument(isWithin(what, 0, 6));
        Cell asked = table.cells[cell];
        switch (what) {
            case 0:
                return asked.row;
            case 1:
                return asked.column;
            case 2:
                return asked.span;
            case 3:
                return asked.content.kind;
            case 4:
                return asked.content.words;
            case 5:
                return table.minimumOf(asked);
            default:
                return table.maximumOf(asked);
        }
    }

    public int cellAt(int row, int column) throws IndexOutOfBoundsException {
        requireRow(row);
        requireColumn(column);
        return table.occupant(row, column);
    }

    public int lineCount(int cell, int width)
            throws IndexOutOfBoundsException, UnsupportedOperationException, IllegalArgumentException {
        Content content = textOf(cell);
        requireArgument(isWithin(width, content.minimum(), MAX_ASKED_WIDTH));
        return content.breakLines(width);
    }

    public int lineLength(int cell, int width, int line)
            throws IndexOutOfBoundsException, UnsupportedOperationException, IllegalArgumentException,
            java.util.NoSuchElementException {
        Content content = textOf(cell);
        requireArgument(isWithin(width, content.minimum(), MAX_ASKED_WIDTH));
        requireElement(isWithin(line, 0, content.breakLines(width) - 1));
        return content.lineLengths[line];
    }

    public int cellHeight(int cell, int width) throws IndexOutOfBoundsException, IllegalArgumentException {
        requireCell(cell);
        Cell asked = table.cells[cell];
        requireArgument(isWithin(width, table.minimumOf(asked), MAX_ASKED_WIDTH));
        return table.heightWithin(asked, width);
    }

    public int nextStep(int cell, int width)
            throws IndexOutOfBoundsException, IllegalArgumentException, java.util.NoSuchElementException {
        requireCell(cell);
        Cell asked = table.cells[cell];
        requireArgument(isWithin(width, table.minimumOf(asked), MAX_ASKED_WIDTH));
        int present = table.heightWithin(asked, width);
        int next = width + 1;
        while (next <= MAX_ASKED_WIDTH && table.heightWithin(asked, next) >= present) {
            next++;
        }
        requireElement(next <= MAX_ASKED_WIDTH);
        return next;
    }

    // ---- columns ----

    public int columnWidth(int column, int what) throws IndexOutOfBoundsException, IllegalArgumentException {
        requireColumn(column);
        requireArgument(isWithin(what, 0, 2));
        if (what == 0) {
            return columns.minimums[column];
        }
        return what == 1 ? columns.maximums[column] : columns.percentages[column];
    }

    public int conflicts() {
        int set = 0;
        for (int column = 0; column < table.columnCount; column++) {
            if (table.types[column] == PROPORTIONAL && columns.percentages[column] < table.values[column]) {
                set |= 1 << column;
            }
        }
        return set;
    }

    public int guess(int guess, int column) throws IllegalArgumentException, IndexOutOfBoundsException {
        requireArgument(isWithin(guess, 0, GUESSES - 1));
        requireIndex(isWithin(column, -1, table.columnCount - 1));
        return column < 0 ? columns.guessSums[guess] : columns.guesses[guess][column];
    }

    public int autoWidth(int column) throws IndexOutOfBoundsException, IllegalStateException {
        requireColumn(column);
        return automaticWidths()[column];
    }

    public int autoHeight() throws IllegalStateException {
        return table.heightOfAll(automaticWidths());
    }

    public int bestWidth(int column) throws IndexOutOfBoundsException, IllegalStateException {
        requireColumn(column);
        return bestWidths()[column];
    }

    public int bestHeight() throws IllegalStateException {
        int height = search.leastHeight(table.width);
        requireState(height >= 0);
        return height;
    }

    public int rowHeight(int row, boolean best) throws IndexOutOfBoundsException, IllegalStateException {
        requireRow(row);
        return table.heightOfRow(row, best ? bestWidths() : automaticWidths());
    }

    public int tallest(int row)
            throws IndexOutOfBoundsException, IllegalStateException, java.util.NoSuchElementException {
        requireRow(row);
        int[] widths = bestWidths();
        int height = table.heightOfRow(row, widths);
        int found = -1;
        for (int cell = 0; cell < table.cellCount && found < 0; cell++) {
            Cell candidate = table.cells[cell];
            if (candidate.row == row && table.heightIn(candidate, widths) == height) {
                found = cell;
            }
        }
        requireElement(found >= 0);
        return found;
    }

    public int heightFor(int a, int b, int c, int d) throws IllegalArgumentException {
        givenWidths[0] = a;
        givenWidths[1] = b;
        givenWidths[2] = c;
        givenWidths[3] = d;
        for (int column = 0; column < table.columnCount; column++) {
            requireArgument(isWithin(givenWidths[column], columns.minimums[column], MAX_COLUMN_WIDTH));
        }
        return table.heightOfAll(givenWidths);
    }

    // ---- analysis ----

    public int heightAt(int width) throws IllegalArgumentException, java.util.NoSuchElementException {
        requireArgument(isWithin(width, MIN_TABLE_WIDTH, MAX_TABLE_WIDTH));
        int height = search.leastHeight(width);
        requireElement(height >= 0);
        return height;
    }

    public int narrowest(int height) throws java.util.NoSuchElementException {
        for (int width = MIN_TABLE_WIDTH; width <= MAX_TABLE_WIDTH; width++) {
            int least = search.leastHeight(width);
            if (least >= 0 && least <= height) {
                return width;
            }
        }
        throw new NoSuchElementException();
    }

    public int improvements() {
        int number = 0;
        for (int width = MIN_TABLE_WIDTH; width <= MAX_TABLE_WIDTH; width++) {
            number += isImproving(width) ? 1 : 0;
        }
        return number;
    }

    public int improvement(int index) throws java.util.NoSuchElementException {
        int number = 0;
        for (int width = MIN_TABLE_WIDTH; width <= MAX_TABLE_WIDTH; width++) {
            if (isImproving(width)) {
                if (number == index) {
                    return width;
                }
                number++;
            }
        }
        throw new NoSuchElementException();
    }

    public int critical() throws IllegalStateException, java.util.NoSuchElementException {
        int least = search.leastHeight(table.width);
        requireState(least >= 0);
        int found = -1;
        for (int cell = 0; cell < table.cellCount; cell++) {
            trial.copyFrom(table);
            trial.takeOut(cell);
            int lower = heightOfTrialBelow(least);
            if (lower >= 0) {
                least = lower;
                found = cell;
            }
        }
        requireElement(found >= 0);
        return found;
    }

    public int costOfWord(int cell, int length)
            throws IndexOutOfBoundsException, UnsupportedOperationException, IllegalArgumentException,
            IllegalStateException {
        Content content = textOf(cell);
        requireArgument(isWithin(length, 1, MAX_WORD_LENGTH));
        requireState(content.words < MAX_WORDS);
        int now = search.leastHeight(table.width);
        requireState(now >= 0);
        trial.copyFrom(table);
        trial.cells[cell].content.pushAfterSpace(length);
        int then = heightOfTrialBelow(Search.ABOVE_ALL);
        requireState(then >= 0);
        return then - now;
    }

    public int raggednessBits(int cell)
            throws IndexOutOfBoundsException, UnsupportedOperationException, IllegalStateException {
        Content content = textOf(cell);
        int width = table.widthIn(table.cells[cell], bestWidths()) - 2 * table.padding;
        return Bits.ofFloat(content.raggedness(width));
    }

    public long densityBits() throws IllegalStateException, ArithmeticException {
        int[] widths = automaticWidths();
        int area = table.width * table.heightOfAll(widths);
        if (area == 0) {
            throw new ArithmeticException();
        }
        int ink = 0;
        for (int cell = 0; cell < table.cellCount; cell++) {
            Cell inked = table.cells[cell];
            ink += inked.content.inkWithin(table.widthIn(inked, widths) - 2 * table.padding);
        }
        return Bits.ofDouble((double) ink / (double) area);
    }

    // ---- clips and snapshots ----

    public int makeClip(int clip, int kind, int size) throws IndexOutOfBoundsException, IllegalArgumentException {
        requireIndex(isWithin(clip, 0, CLIPS - 1));
        requireArgument(isWithin(kind, PARAGRAPH, ICON));
        requireArgument(isWithin(size, 0, MAX_PLACES));
        clips[clip].remake(kind, size);
        return size;
    }

    public int copyTo(int clip, int place, int cell)
            throws IndexOutOfBoundsException, IllegalStateException, java.util.NoSuchElementException,
            IllegalArgumentException {
        requireIndex(isWithin(clip, 0, CLIPS - 1));
        requireCell(cell);
        Clip target = clips[clip];
        Content content = table.cells[cell].content;
        requireState(target.made);
        requireElement(isWithin(place, 0, target.size - 1));
        requireArgument(target.accepts(content.kind));
        target.contents[place].copyFrom(content);
        target.filled[place] = true;
        return content.kind;
    }

    public int paste(int clip, int place, int row, int column)
            throws IndexOutOfBoundsException, java.util.NoSuchElementException, IllegalStateException {
        requireIndex(isWithin(clip, 0, CLIPS - 1));
        requireRow(row);
        requireColumn(column);
        Clip source = clips[clip];
        // A clip that is not made has no places.
        requireElement(isWithin(place, 0, source.size - 1) && source.filled[place]);
        requireState(table.hasRoom(row, column, 1));
        table.place(row, column, 1).copyFrom(source.contents[place]);
        changed();
        return table.cellCount - 1;
    }

    public int save() {
        snapshot.copyFrom(table);
        saved = true;
        return table.cellCount;
    }

    public int restore() throws IllegalStateException {
        requireState(saved);
        table.copyFrom(snapshot);
        changed();
        return table.cellCount;
    }

    // ---- what the calls share ----

    private void changed() {
        columns.measure();
        search.restart(Search.ABOVE_ALL);
    }

    private int heightOfTrialBelow(int limit) {
        trialColumns.measure();
        trialSearch.restart(limit);
        return trialSearch.leastHeight(trial.width);
    }

    private int[] automaticWidths() {
        requireState(columns.automaticExists);
        return columns.automatic;
    }

    private int[] bestWidths() {
        requireState(search.leastHeight(table.width) >= 0);
        return search.widthsFor(table.width);
    }

    private boolean isImproving(int width) {
        int height = search.leastHeight(width);
        boolean improving = height >= 0;
        for (int lesser = MIN_TABLE_WIDTH; improving && lesser < width; lesser++) {
            int other = search.leastHeight(lesser);
            improving = other < 0 || height < other;
        }
        return improving;
    }

    private Content textOf(int cell) {
        requireCell(cell);
        Content content = table.cells[cell].content;
        requireSupport(content.isText());
        return content;
    }

    private void requireCell(int cell) {
        requireIndex(isWithin(cell, 0, table.cellCount - 1));
    }

    private void requireRow(int row) {
        requireIndex(isWithin(row, 0, table.rowCount - 1));
    }

    private void requireColumn(int column) {
        requireIndex(isWithin(column, 0, table.columnCount - 1));
    }

    private static void requireIndex(boolean holds) {
        if (!holds) {
            throw new IndexOutOfBoundsException();
        }
    }

    private static void requireArgument(boolean holds) {
        if (!holds) {
            throw new IllegalArgumentException();
        }
    }

    private static void requireState(boolean holds) {
        if (!holds) {
            throw new IllegalStateException();
        }
    }

    private static void requireSupport(boolean holds) {
        if (!holds) {
            throw new UnsupportedOperationException();
        }
    }

    private static void requireElement(boolean holds) {
        if (!holds) {
            throw new NoSuchElementException();
        }
    }

    private static boolean isWithin(int value, int least, int most) {
        return value >= least && value <= most;
    }

    private static boolean isTextKind(int kind) {
        return kind <= CODE;
    }

    // ---- the parts ----

    /** What a cell shows: words for the text kinds, a size for the other ones. */
    private static final class Content {
        private static final int UNKNOWN = -1;

        private int kind;
        private int width;
        private int height;
        private int words;
        private int indent;
        private final int[] lengths;
        private final int[] breaks;
        /** The pieces follow from the words; they are kept because every line is made of them. */
        private int pieces;
        /** The length that a piece adds to a line which it ends, with its hyphen if it has one. */
        private final int[] endingLengths;
        /** The length that a piece adds to a line which goes on behind it, with the space if there is one. */
        private final int[] passingLengths;
        private final boolean[] lineEnds;
        private final int[] lineLengths;
        /** The heights found so far, by content width: the search asks for the same ones again and again. */
        private final int[] heights;

        private Content() {
            lengths = new int[MAX_WORDS];
            breaks = new int[MAX_WORDS];
            endingLengths = new int[MAX_WORDS];
            passingLengths = new int[MAX_WORDS];
            lineEnds = new boolean[MAX_WORDS];
            lineLengths = new int[MAX_WORDS];
            heights = new int[MAX_TABLE_WIDTH + 1];
        }

        private void begin(int newKind) {
            kind = newKind;
            width = 1;
            height = 1;
            words = 0;
            settle();
        }

        private void copyFrom(Content other) {
            kind = other.kind;
            width = other.width;
            height = other.height;
            words = other.words;
            indent = other.indent;
            pieces = other.pieces;
            for (int word = 0; word < words; word++) {
                lengths[word] = other.lengths[word];
                breaks[word] = other.breaks[word];
            }
            for (int piece = 0; piece < pieces; piece++) {
                endingLengths[piece] = other.endingLengths[piece];
                passingLengths[piece] = other.passingLengths[piece];
                lineEnds[piece] = other.lineEnds[piece];
            }
            System.arraycopy(other.heights, 0, heights, 0, heights.length);
        }

        private void resize(int newWidth, int newHeight) {
            width = newWidth;
            height = newHeight;
            settle();
        }

        private void turnInto(int newKind) {
            kind = newKind;
            settle();
        }

        private void push(int length, int breakAfter) {
            if (words < MAX_WORDS) {
                lengths[words] = length;
                breaks[words] = breakAfter;
                words++;
            }
            settle();
        }

        private void pushAfterSpace(int length) {
            if (words > 0) {
                breaks[words - 1] = SPACE;
            }
            push(length, SPACE);
        }

        /** Must end every change: it finds what follows from the words and forgets the heights. */
        private void settle() {
            indent = kind == QUOTE ? 2 : 0;
            pieces = 0;
            int length = 0;
            for (int word = 0; word < words; word++) {
                length += lengths[word];
                int after = breaks[word];
                if (word == words - 1) {
                    // Behind the last word nothing follows, which is as good as a line end.
                    keepPiece(length, LINE_END);
                } else if (joins(after)) {
                    length += after == SOFT_HYPHEN ? 0 : 1;
                } else {
                    keepPiece(length, after);
                    length = 0;
                }
            }
            Arrays.fill(heights, UNKNOWN);
        }

        private void keepPiece(int length, int after) {
            if (pieces < MAX_WORDS) {
                endingLengths[pieces] = length + (after == SOFT_HYPHEN ? 1 : 0);
                passingLengths[pieces] = length + (after == SPACE ? 1 : 0);
                lineEnds[pieces] = after == LINE_END;
                pieces++;
            }
        }

        private boolean joins(int between) {
            return between == FIXED_SPACE || kind == CODE && between != LINE_END;
        }

        private boolean isText() {
            return kind <= CODE;
        }

        private int minimum() {
            if (!isText()) {
                return kind == PICTURE ? (width + 1) / 2 : width;
            }
            int greatest = 0;
            for (int piece = 0; piece < pieces; piece++) {
                greatest = Math.max(greatest, endingLengths[piece]);
            }
            return indent + greatest;
        }

        private int maximum() {
            if (!isText()) {
                return width;
            }
            int greatest = 0;
            int length = 0;
            for (int piece = 0; piece < pieces; piece++) {
                if (lineEnds[piece]) {
                    greatest = Math.max(greatest, length + endingLengths[piece]);
                    length = 0;
                } else {
                    length += passingLengths[piece];
                }
            }
            return indent + greatest;
        }

        /** Fills in the lengths of the lines and returns their number. */
        private int breakLines(int contentWidth) {
            int room = contentWidth - indent;
            int lines = 0;
            int used = 0;
            boolean open = false;
            for (int piece = 0; piece < pieces; piece++) {
                // One more piece never makes a line shorter, for a hyphen gives way to at least one letter:
                // the first piece that does not fit ends the line.
                if (!open || used + endingLengths[piece] > room) {
                    used = 0;
                    lines++;
                }
                lineLengths[lines - 1] = used + endingLengths[piece];
                used += passingLengths[piece];
                open = !lineEnds[piece];
            }
            return lines;
        }

        private int heightWithin(int contentWidth) {
            boolean kept = isWithin(contentWidth, 0, MAX_TABLE_WIDTH);
            if (kept && heights[contentWidth] != UNKNOWN) {
                return heights[contentWidth];
            }
            int found;
            if (isText()) {
                found = breakLines(contentWidth) * (kind == HEADING ? 2 : 1);
            } else {
                found = pictureHeight(contentWidth);
            }
            if (kept) {
                heights[contentWidth] = found;
            }
            return found;
        }

        private int pictureHeight(int contentWidth) {
            if (kind == ICON || contentWidth >= width || width < 1) {
                return height;
            }
            return Math.max(1, (int) ((float) contentWidth / width * height));
        }

        private float raggedness(int contentWidth) {
            int space = contentWidth - indent;
            int lines = breakLines(contentWidth);
            if (lines < 1 || space < 1) {
                return 0.0f;
            }
            float sum = 0.0f;
            for (int line = 0; line < lines; line++) {
                float share = (float) (space - lineLengths[line]) / (float) space;
                sum += share * share;
            }
            return sum / (float) lines;
        }

        private int inkWithin(int contentWidth) {
            if (!isText()) {
                return Math.min(width, contentWidth) * heightWithin(contentWidth);
            }
            int ink = 0;
            for (int word = 0; word < words; word++) {
                ink += lengths[word];
            }
            return ink;
        }
    }

    /** A content at its place in the table. */
    private static final class Cell {
        private int row;
        private int column;
        private int span;
        private final Content content;

        private Cell() {
            content = new Content();
        }

        private void copyFrom(Cell other) {
            row = other.row;
            column = other.column;
            span = other.span;
            content.copyFrom(other.content);
        }

        private boolean overlaps(int otherColumn, int otherSpan) {
            return column < otherColumn + otherSpan && otherColumn < column + span;
        }
    }

    /** Measures, columns, rows and cells: all that a snapshot keeps. */
    private static final class Table {
        private int width;
        private int gap;
        private int padding;
        private int columnCount;
        private int rowCount;
        private int cellCount;
        private final int[] types;
        /** The fixed width or the percentage, 0 for an automatic column. */
        private final int[] values;
        private final Cell[] cells;

        private Table() {
            width = 30;
            gap = 1;
            columnCount = 3;
            types = new int[MAX_COLUMNS];
            values = new int[MAX_COLUMNS];
            cells = new Cell[MAX_CELLS];
            for (int cell = 0; cell < MAX_CELLS; cell++) {
                cells[cell] = new Cell();
            }
        }

        private void copyFrom(Table other) {
            width = other.width;
            gap = other.gap;
            padding = other.padding;
            columnCount = other.columnCount;
            rowCount = other.rowCount;
            cellCount = other.cellCount;
            for (int column = 0; column < MAX_COLUMNS; column++) {
                types[column] = other.types[column];
                values[column] = other.values[column];
            }
            for (int cell = 0; cell < cellCount; cell++) {
                cells[cell].copyFrom(other.cells[cell]);
            }
        }

        private void restartColumns(int count) {
            columnCount = count;
            for (int column = 0; column < MAX_COLUMNS; column++) {
                specify(column, AUTOMATIC, 0);
            }
        }

        private void specify(int column, int type, int value) {
            types[column] = type;
            values[column] = type == AUTOMATIC ? 0 : value;
        }

        private int usableWidth(int tableWidth) {
            return tableWidth - gap * (columnCount + 1);
        }

        private int occupant(int row, int column) {
            for (int cell = 0; cell < cellCount; cell++) {
                if (cells[cell].row == row && cells[cell].overlaps(column, 1)) {
                    return cell;
                }
            }
            return -1;
        }

        private boolean hasRoom(int row, int column, int span) {
            boolean free = cellCount < MAX_CELLS;
            for (int cell = 0; cell < cellCount; cell++) {
                free = free && (cells[cell].row != row || !cells[cell].overlaps(column, span));
            }
            return free;
        }

        /** Adds a cell where there is room for it; its content is for the caller to fill. */
        private Content place(int row, int column, int span) {
            Cell cell = cells[cellCount];
            cell.row = row;
            cell.column = column;
            cell.span = span;
            cellCount++;
            return cell.content;
        }

        private void takeOut(int cell) {
            Cell removed = cells[cell];
            for (int later = cell + 1; later < cellCount; later++) {
                cells[later - 1] = cells[later];
            }
            cellCount--;
            cells[cellCount] = removed;
        }

        private int minimumOf(Cell cell) {
            return cell.content.minimum() + 2 * padding;
        }

        private int maximumOf(Cell cell) {
            return cell.content.maximum() + 2 * padding;
        }

        private int heightWithin(Cell cell, int cellWidth) {
            return cell.content.heightWithin(cellWidth - 2 * padding) + 2 * padding;
        }

        private int widthIn(Cell cell, int[] widths) {
            int sum = gap * (cell.span - 1);
            for (int column = cell.column; column < cell.column + cell.span; column++) {
                sum += widths[column];
            }
            return sum;
        }

        private int heightIn(Cell cell, int[] widths) {
            return heightWithin(cell, widthIn(cell, widths));
        }

        private int heightOfRow(int row, int[] widths) {
            int height = 0;
            for (int cell = 0; cell < cellCount; cell++) {
                if (cells[cell].row == row) {
                    height = Math.max(height, heightIn(cells[cell], widths));
                }
            }
            return height;
        }

        private int heightOfAll(int[] widths) {
            int height = gap * (rowCount + 1);
            for (int row = 0; row < rowCount; row++) {
                height += heightOfRow(row, widths);
            }
            return height;
        }
    }

    /** What follows for the columns without a search: minimums, maximums, percentages, guesses, automatic layout. */
    private static final class Columns {
        private final Table table;
        private final int[] minimums;
        private final int[] maximums;
        private final int[] percentages;
        private final int[][] guesses;
        private final int[] guessSums;
        private final int[] automatic;
        private boolean automaticExists;
        private final int[] weights;

        private Columns(Table measured) {
            table = measured;
            minimums = new int[MAX_COLUMNS];
            maximums = new int[MAX_COLUMNS];
            percentages = new int[MAX_COLUMNS];
            guesses = new int[GUESSES][MAX_COLUMNS];
            guessSums = new int[GUESSES];
            automatic = new int[MAX_COLUMNS];
            weights = new int[MAX_COLUMNS];
        }

        private void measure() {
            measureSingleCells();
            for (int span = 2; span <= table.columnCount; span++) {
                measureCellsOfSpan(span);
            }
            findPercentages();
            findGuesses();
            findAutomatic();
        }

        private void measureSingleCells() {
            for (int column = 0; column < table.columnCount; column++) {
                minimums[column] = 1;
                maximums[column] = 1;
            }
            for (int number = 0; number < table.cellCount; number++) {
                Cell cell = table.cells[number];
                if (cell.span == 1) {
                    minimums[cell.column] = Math.max(minimums[cell.column], table.minimumOf(cell));
                    maximums[cell.column] = Math.max(maximums[cell.column], table.maximumOf(cell));
                }
            }
            for (int column = 0; column < table.columnCount; column++) {
                if (table.types[column] == FIXED) {
                    maximums[column] = table.values[column];
                }
            }
            raiseMaximums();
        }

        private void raiseMaximums() {
            for (int column = 0; column < table.columnCount; column++) {
                maximums[column] = Math.max(maximums[column], minimums[column]);
            }
        }

        private void measureCellsOfSpan(int span) {
            for (int number = 0; number < table.cellCount; number++) {
                Cell cell = table.cells[number];
                if (cell.span == span) {
                    widen(cell, table.minimumOf(cell), minimums);
                    raiseMaximums();
                    widen(cell, table.maximumOf(cell), maximums);
                }
            }
        }

        private void widen(Cell cell, int wanted, int[] widths) {
            int lacking = wanted - table.widthIn(cell, widths);
            if (lacking > 0) {
                weighByMaximums(cell);
                share(lacking, widths);
            }
        }

        private void weighByMaximums(Cell cell) {
            boolean allFixed = true;
            for (int column = 0; column < table.columnCount; column++) {
                allFixed = allFixed && (!cell.overlaps(column, 1) || table.types[column] == FIXED);
            }
            for (int column = 0; column < table.columnCount; column++) {
                boolean shares = cell.overlaps(column, 1) && (allFixed || table.types[column] != FIXED);
                weights[column] = shares ? maximums[column] : 0;
            }
        }

        /** Shares by the weights; a column that takes no part has the weight 0, which earns it nothing either. */
        private void share(int amount, int[] widths) {
            int total = 0;
            for (int column = 0; column < table.columnCount; column++) {
                total += weights[column];
            }
            if (total <= 0) {
                return;
            }
            int remaining = amount;
            for (int column = 0; column < table.columnCount; column++) {
                int part = amount * weights[column] / total;
                widths[column] += part;
                remaining -= part;
            }
            for (int column = 0; column < table.columnCount && remaining > 0; column++) {
                if (weights[column] > 0) {
                    widths[column]++;
                    remaining--;
                }
            }
        }

        private void findPercentages() {
            int left = 100;
            for (int column = 0; column < table.columnCount; column++) {
                boolean proportional = table.types[column] == PROPORTIONAL;
                percentages[column] = proportional ? Math.min(table.values[column], left) : 0;
                left -= percentages[column];
            }
        }

        private void findGuesses() {
            int usable = table.usableWidth(table.width);
            for (int column = 0; column < table.columnCount; column++) {
                int type = table.types[column];
                int least = minimums[column];
                int portion = type == PROPORTIONAL ? usable * percentages[column] / 100 : 0;
                int fixed = type == FIXED ? table.values[column] : 0;
                guesses[0][column] = least;
                guesses[1][column] = Math.max(least, portion);
                guesses[2][column] = Math.max(guesses[1][column], fixed);
                guesses[3][column] = type == AUTOMATIC ? maximums[column] : guesses[2][column];
            }
            for (int guess = 0; guess < GUESSES; guess++) {
                guessSums[guess] = 0;
                for (int column = 0; column < table.columnCount; column++) {
                    guessSums[guess] += guesses[guess][column];
                }
            }
        }

        private void findAutomatic() {
            int usable = table.usableWidth(table.width);
            automaticExists = usable >= guessSums[0];
            // The greatest guess that fits is the ground on which the rest is shared.
            int fitting = 0;
            for (int guess = 1; guess < GUESSES; guess++) {
                if (guessSums[guess] <= usable) {
                    fitting = guess;
                }
            }
            for (int column = 0; column < table.columnCount; column++) {
                automatic[column] = guesses[fitting][column];
            }
            if (guessSums[fitting] < usable) {
                weighRest(fitting);
                share(usable - guessSums[fitting], automatic);
            }
        }

        private void weighRest(int fitting) {
            int receiving = PROPORTIONAL;
            for (int column = 0; column < table.columnCount; column++) {
                receiving = Math.min(receiving, table.types[column]);
            }
            for (int column = 0; column < table.columnCount; column++) {
                if (fitting < GUESSES - 1) {
                    weights[column] = guesses[fitting + 1][column] - guesses[fitting][column];
                } else if (receiving == PROPORTIONAL) {
                    weights[column] = percentages[column] + 1;
                } else {
                    // Guess 3 of an automatic column is its maximum.
                    weights[column] = table.types[column] == receiving ? guesses[3][column] : 0;
                }
            }
        }
    }

    /** The exact search for the least table height; what it found stays until the table changes. */
    private static final class Search {
        private static final int NO_LAYOUT = -1;
        private static final int UNKNOWN = -2;
        private static final int ABOVE_ALL = 1000000;

        private final Table table;
        private final Columns columns;
        private final int[] leastHeights;
        private final int[][] leastWidths;
        /** The least allowed width of each column; only free columns may be wider. */
        private final int[] needs;
        private int needed;
        private int lastFree;
        /** Row d holds, for each row of the table, a lower bound of its height when d columns have their widths. */
        private final int[][] bounds;
        private final int[] tried;
        private int limit;
        private int asked;
        private int least;

        private Search(Table searched, Columns measured) {
            table = searched;
            columns = measured;
            leastHeights = new int[MAX_TABLE_WIDTH + 1];
            leastWidths = new int[MAX_TABLE_WIDTH + 1][MAX_COLUMNS];
            needs = new int[MAX_COLUMNS];
            bounds = new int[MAX_COLUMNS + 1][MAX_ROWS];
            tried = new int[MAX_COLUMNS];
        }

        /**
         * Must follow every change of the table and the measuring of its columns. Only layouts below the limit are
         * looked for, which is much faster where higher ones do not matter.
         */
        private void restart(int newLimit) {
            limit = newLimit;
            needed = 0;
            lastFree = -1;
            for (int column = 0; column < table.columnCount; column++) {
                needs[column] = isFree(column) ? columns.minimums[column] : columns.guesses[2][column];
                needed += needs[column];
                lastFree = isFree(column) ? column : lastFree;
            }
            Arrays.fill(leastHeights, UNKNOWN);
        }

        private int[] widthsFor(int tableWidth) {
            return leastWidths[tableWidth];
        }

        /** The table height of the best layout for a table width of at most 36, or less than 0 if there is none. */
        private int leastHeight(int tableWidth) {
            if (leastHeights[tableWidth] == UNKNOWN) {
                int slack = table.usableWidth(tableWidth) - needed;
                least = limit;
                asked = tableWidth;
                if (slack == 0 || slack > 0 && lastFree >= 0) {
                    boundRows(slack);
                    descend(this, 0, slack);
                }
                leastHeights[tableWidth] = least < limit ? least : NO_LAYOUT;
            }
            return leastHeights[tableWidth];
        }

        private boolean isFree(int column) {
            return table.types[column] != FIXED;
        }

        /** Heights never rise with the width for texts and never fall for pictures: one end is the least. */
        private void boundRows(int slack) {
            Arrays.fill(bounds[0], 0);
            for (int number = 0; number < table.cellCount; number++) {
                Cell cell = table.cells[number];
                int narrow = table.widthIn(cell, needs);
                int lowest = Math.min(table.heightWithin(cell, narrow), table.heightWithin(cell, narrow + slack));
                bounds[0][cell.row] = Math.max(bounds[0][cell.row], lowest);
            }
        }

        /** Tries widths in lexicographic order; what cannot become lower than the best so far is not followed. */
        private static void descend(Search search, int column, int slack) {
            if (column >= search.table.columnCount) {
                search.keepTried();
                return;
            }
            int from = column == search.lastFree ? slack : 0;
            int to = search.isFree(column) ? slack : 0;
            for (int extra = from; extra <= to; extra++) {
                search.tried[column] = search.needs[column] + extra;
                if (search.boundWith(column) < search.least) {
                    descend(search, column + 1, slack - extra);
                }
            }
        }

        private void keepTried() {
            least = sumOf(bounds[table.columnCount]);
            for (int column = 0; column < table.columnCount; column++) {
                leastWidths[asked][column] = tried[column];
            }
        }

        /** Takes in the cells that end with this column, whose widths are settled now. */
        private int boundWith(int column) {
            int[] rows = bounds[column + 1];
            int paddings = 2 * table.padding;
            for (int row = 0; row < table.rowCount; row++) {
                rows[row] = bounds[column][row];
            }
            for (int number = 0; number < table.cellCount; number++) {
                Cell cell = table.cells[number];
                if (cell.column + cell.span == column + 1) {
                    int height = cell.content.heightWithin(table.widthIn(cell, tried) - paddings) + paddings;
                    rows[cell.row] = Math.max(rows[cell.row], height);
                }
            }
            return sumOf(rows);
        }

        private int sumOf(int[] rows) {
            int sum = table.gap * (table.rowCount + 1);
            for (int row = 0; row < table.rowCount; row++) {
                sum += rows[row];
            }
            return sum;
        }
    }

    /** The buffer and the reader of its commands. */
    private static final class Script {
        private final char[] text;
        private int length;
        /** The length of the text that is being read; the buffer counts as empty from then on. */
        private int end;
        private int at;
        private int errorAt;
        private int blockedAt;
        private Table target;
        private final Content content;

        private Script() {
            text = new char[MAX_TEXT];
            errorAt = -1;
            content = new Content();
        }

        private void push(int sign) {
            if (sign != 0 && length < MAX_TEXT) {
                text[length] = (char) sign;
                length++;
            }
        }

        /** Reads the whole text and returns the number of commands; a command that cannot be done is an error. */
        private int run(Table changing) {
            target = changing;
            end = length;
            length = 0;
            at = 0;
            blockedAt = -1;
            int commands = 1;
            readCommand();
            while (at < end && commands < MAX_TEXT) {
                readCommand();
                commands++;
            }
            // A form error behind a command that cannot be done comes first, so this waits for the end of the text.
            errorAt = blockedAt;
            return commands;
        }

        private void readCommand() {
            int start = at;
            int stop = endOfLetters();
            at = stop;
            if (spells(start, stop, "width")) {
                target.width = readMeasure(MIN_TABLE_WIDTH, MAX_TABLE_WIDTH);
            } else if (spells(start, stop, "gap")) {
                target.gap = readMeasure(0, MAX_GAP);
            } else if (spells(start, stop, "pad")) {
                target.padding = readMeasure(0, MAX_PADDING);
            } else if (spells(start, stop, "col")) {
                readColumnCommand();
            } else if (spells(start, stop, "row")) {
                readRowCommand(start);
            } else if (spells(start, stop, "cell")) {
                readCellCommand(start);
            } else if (spells(start, stop, "pic")) {
                readPictureCommand(start);
            } else {
                demand(false, start);
            }
        }

        private int readMeasure(int least, int most) {
            skip('=');
            int value = readNumber(least, most);
            skip(';');
            return value;
        }

        private void readColumnCommand() {
            int column = readColumn();
            skip('=');
            int start = at;
            int stop = endOfLetters();
            at = stop;
            int type = AUTOMATIC;
            int value = 0;
            if (spells(start, stop, "fix")) {
                type = FIXED;
                value = readNumber(1, MAX_COLUMN_WIDTH);
            } else if (spells(start, stop, "pct")) {
                type = PROPORTIONAL;
                value = readNumber(1, 99);
            } else {
                demand(spells(start, stop, "auto"), start);
            }
            skip(';');
            target.specify(column, type, value);
        }

        private void readRowCommand(int start) {
            skip(';');
            if (target.rowCount >= MAX_ROWS) {
                block(start);
            } else {
                target.rowCount++;
            }
        }

        private void readCellCommand(int start) {
            int column = readColumn();
            int span = readSpan(column);
            content.begin(readKind());
            skip('=');
            int word = readWord();
            // The mark before a thirteenth word is left unread and so refused where the semicolon is due.
            for (int more = 1; more < MAX_WORDS && isMarkAt(at); more++) {
                content.push(word, breakFor(text[at]));
                at++;
                word = readWord();
            }
            content.push(word, SPACE);
            skip(';');
            putContent(start, column, span);
        }

        private void readPictureCommand(int start) {
            int column = readColumn();
            int span = readSpan(column);
            skip('=');
            int width = readNumber(1, MAX_PICTURE);
            skip('x');
            int height = readNumber(1, MAX_PICTURE);
            skip(';');
            content.begin(PICTURE);
            content.resize(width, height);
            putContent(start, column, span);
        }

        private void putContent(int start, int column, int span) {
            int row = target.rowCount - 1;
            if (row < 0 || !target.hasRoom(row, column, span)) {
                block(start);
            } else {
                target.place(row, column, span).copyFrom(content);
            }
        }

        private void block(int start) {
            blockedAt = blockedAt < 0 ? start : blockedAt;
        }

        private int readColumn() {
            int start = at;
            int column = readDigit();
            demand(column < target.columnCount, start);
            return column;
        }

        private int readSpan(int column) {
            int start = at;
            int span = readDigit();
            demand(span >= 1 && column + span <= target.columnCount, start);
            return span;
        }

        private int readKind() {
            int kind = at < end ? kindFor(text[at]) : -1;
            demand(kind >= 0, at);
            at++;
            return kind;
        }

        private int readWord() {
            int stop = Math.min(endOfLetters(), at + MAX_WORD_LENGTH);
            int read = stop - at;
            demand(read > 0, at);
            at = stop;
            return read;
        }

        private int readNumber(int least, int most) {
            int start = at;
            int value = readDigit();
            if (value > 0 && isDigitAt(at)) {
                value = 10 * value + readDigit();
            }
            demand(isWithin(value, least, most), start);
            return value;
        }

        private int readDigit() {
            demand(isDigitAt(at), at);
            int digit = at < end ? text[at] - '0' : 0;
            at++;
            return digit;
        }

        private void skip(char sign) {
            demand(at < end && text[at] == sign, at);
            at++;
        }

        private boolean isDigitAt(int position) {
            return position < end && text[position] >= '0' && text[position] <= '9';
        }

        private boolean isMarkAt(int position) {
            return position < end && breakFor(text[position]) >= 0;
        }

        private int endOfLetters() {
            int stop = at;
            while (stop < end && text[stop] >= 'a' && text[stop] <= 'z') {
                stop++;
            }
            return stop;
        }

        private boolean spells(int start, int stop, String word) {
            boolean same = stop - start == word.length();
            for (int index = 0; same && index < word.length(); index++) {
                same = text[start + index] == word.charAt(index);
            }
            return same;
        }

        private void demand(boolean holds, int position) {
            if (!holds) {
                errorAt = position;
                throw new IllegalArgumentException();
            }
        }

        private static int kindFor(char letter) {
            switch (letter) {
                case 'p':
                    return PARAGRAPH;
                case 'h':
                    return HEADING;
                case 'q':
                    return QUOTE;
                case 'c':
                    return CODE;
                default:
                    return -1;
            }
        }

        private static int breakFor(char mark) {
            switch (mark) {
                case '_':
                    return SPACE;
                case '/':
                    return LINE_END;
                case '~':
                    return FIXED_SPACE;
                case '-':
                    return SOFT_HYPHEN;
                default:
                    return -1;
            }
        }
    }

    /** Places for copies of contents of one kind and its subkinds. */
    private static final class Clip {
        private boolean made;
        private int kind;
        private int size;
        private final boolean[] filled;
        private final Content[] contents;

        private Clip() {
            filled = new boolean[MAX_PLACES];
            contents = new Content[MAX_PLACES];
            for (int place = 0; place < MAX_PLACES; place++) {
                contents[place] = new Content();
            }
        }

        private void remake(int newKind, int newSize) {
            made = true;
            kind = newKind;
            size = newSize;
            for (int place = 0; place < MAX_PLACES; place++) {
                filled[place] = false;
            }
        }

        private boolean accepts(int other) {
            return other == kind || kind == (isTextKind(other) ? PARAGRAPH : PICTURE);
        }
    }

    /** The bits of numbers from 0 to 1 that are not subnormal, found by doubling, which is exact. */
    private static final class Bits {
        private static int ofFloat(float value) {
            if (value <= 0.0f) {
                return 0;
            }
            int exponent = 127;
            float scaled = value;
            for (int step = 0; step < 126 && scaled < 1.0f; step++) {
                scaled = scaled * 2.0f;
                exponent--;
            }
            return (exponent << 23) + (int) ((scaled - 1.0f) * 8388608.0f);
        }

        private static long ofDouble(double value) {
            if (value <= 0.0) {
                return 0L;
            }
            long exponent = 1023L;
            double scaled = value;
            for (int step = 0; step < 1022 && scaled < 1.0; step++) {
                scaled = scaled * 2.0;
                exponent--;
            }
            return (exponent << 52) + (long) ((scaled - 1.0) * 4503599627370496.0);
        }
    }
}
