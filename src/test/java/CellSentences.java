/** The sentences of the promises 15 to 21: cells, their lines and heights. */
final class CellSentences {
    /** Cell 0 is a text with the pieces 3, 4 with a hyphen and 5, cell 1 a picture, cell 2 an icon. */
    private static final String CELLS = """
        run "row;cell01p=abc_abcd-abcde;pic11=7x5;pic21=6x4;" 4
        setKind(2, 5) 4
        """;
    /** Cell 0 has pieces of 49 and 49, which need 99 for one line. */
    private static final String WIDE = """
        addRow() 0
        addCell(0, 0, 1, 0) 0
        addWord(0, 12, 2) 1
        addWord(0, 12, 2) 2
        addWord(0, 12, 2) 3
        addWord(0, 10, 0) 4
        addWord(0, 12, 2) 5
        addWord(0, 12, 2) 6
        addWord(0, 12, 2) 7
        addWord(0, 10, 0) 8
        """;
    /** Cell 0 is one piece of 99: 7 * 12 + 8 + 7. */
    private static final String PIECE_OF_99 = """
        addRow() 0
        addCell(0, 0, 1, 0) 0
        addWord(0, 12, 2) 1
        addWord(0, 12, 2) 2
        addWord(0, 12, 2) 3
        addWord(0, 12, 2) 4
        addWord(0, 12, 2) 5
        addWord(0, 12, 2) 6
        addWord(0, 12, 2) 7
        addWord(0, 8, 2) 8
        """;

    private CellSentences() {
    }

    static void check() {
        count();
        property();
        propertyRefused();
        cellAt();
        lineCount();
        lineCountRefused();
        lineLength();
        lineLengthRefused();
        cellHeight();
        nextStep();
        nextStepRefused();
    }

    private static void count() {
        Sentence.holds("Promise 15", "Returns the number of columns, rows or cells", """
            count(0) 3
            count(1) 0
            count(2) 0
            run "row;row;pic01=1x1;" 3
            count(0) 3
            count(1) 2
            count(2) 1
            """);
        Sentence.holds("Promise 15", "- `what`: 0 for columns, 1 for rows, 2 for cells", """
            setColumns(1) 3
            count(0) 1
            setColumns(4) 1
            count(0) 4
            run "row;row;pic01=1x1;" 3
            count(1) 2
            count(2) 1
            """);
        Sentence.holds("Promise 15", "Returns the number.", TableSentences.SIXTEEN_CELLS + """
            run "row;row;" 2
            count(0) 4
            count(1) 6
            count(2) 16
            """);
        Sentence.holds("Promise 15", "Throws `IllegalArgumentException` if what is not from 0 to 2", """
            count(<0..2>) !IllegalArgumentException
            """);
    }

    private static void property() {
        Sentence.holds("Promise 16", "Returns a property of a cell", CELLS + """
            property(0, 3) 0
            property(1, 3) 4
            property(2, 3) 5
            """);
        Sentence.holds("Promise 16", "- `cell`: the cell", TableSentences.SIXTEEN_CELLS + """
            property(0, 0) 0
            property(0, 1) 0
            property(15, 0) 3
            property(15, 1) 3
            """);
        Sentence.holds("Promise 16", "4 for its number of words, which is 0 for kinds 4 and 5", CELLS + """
            property(0, 4) 3
            property(1, 4) 0
            property(2, 4) 0
            clearWords(0) 3
            property(0, 4) 0
            # the picture takes the place of a text
            removeCell(0) 2
            removeCell(0) 1
            removeCell(0) 0
            addCell(0, 0, 1, 4) 0
            property(0, 4) 0
            new
            """ + TableSentences.TWELVE_WORDS + """
            property(0, 4) 12
            """);
        Sentence.holds("Promise 16", "0 for its row, 1 for its first column, 2 for its span, 3 for its kind", """
            setColumns(4) 3
            run "row;row;row;row;row;row;" 6
            addCell(0, 3, 1, 0) 0
            addCell(5, 0, 4, 5) 1
            property(0, 0) 0
            property(0, 1) 3
            property(0, 2) 1
            property(0, 3) 0
            property(1, 0) 5
            property(1, 1) 0
            property(1, 2) 4
            property(1, 3) 5
            """);
        Sentence.holds("Promise 16", "5 for its minimum width, 6 for its maximum width", CELLS + """
            property(0, 5) 5
            property(0, 6) 13
            property(1, 5) 4
            property(1, 6) 7
            property(2, 5) 6
            property(2, 6) 6
            setMeasure(2, 2) 0
            property(0, 5) 9
            property(0, 6) 17
            property(2, 6) 10
            """);
        Sentence.holds("Promise 16", "Returns the property.", CELLS + """
            # above 99, too
            clearWords(0) 3
            addWord(0, 12, 2) 1
            addWord(0, 12, 2) 2
            addWord(0, 12, 2) 3
            addWord(0, 12, 2) 4
            addWord(0, 12, 2) 5
            addWord(0, 12, 2) 6
            addWord(0, 12, 2) 7
            addWord(0, 12, 2) 8
            property(0, 5) 103
            property(0, 6) 103
            """);
    }

    private static void propertyRefused() {
        Sentence.holds("Promise 16", "Throws `IndexOutOfBoundsException` if there is no such cell", """
            property(0, 0) !IndexOutOfBoundsException
            """ + CELLS + """
            property(<0..2>, 0) !IndexOutOfBoundsException
            property(3, 7) !IndexOutOfBoundsException
            property(15, 0) !IndexOutOfBoundsException
            """);
        Sentence.holds("Promise 16", "Throws `IllegalArgumentException` if what is not from 0 to 6", CELLS + """
            property(0, <0..6>) !IllegalArgumentException
            property(1, 7) !IllegalArgumentException
            """);
    }

    private static void cellAt() {
        Sentence.holds("Promise 17", "Returns the cell that occupies a column of a row", """
            setColumns(4) 3
            run "row;pic12=1x1;row;pic01=1x1;" 4
            cellAt(0, 1) 0
            cellAt(0, 2) 0
            cellAt(1, 0) 1
            """);
        Sentence.holds("Promise 17", "- `row`: the row", TableSentences.SIXTEEN_CELLS + """
            run "row;row;" 2
            cellAt(0, 3) 3
            cellAt(3, 0) 12
            cellAt(5, 0) -1
            """);
        Sentence.holds("Promise 17", "- `column`: the column", """
            setColumns(4) 3
            run "row;pic04=1x1;" 2
            cellAt(0, 0) 0
            cellAt(0, 3) 0
            new
            setColumns(1) 3
            run "row;pic01=1x1;" 2
            cellAt(0, 0) 0
            """);
        Sentence.holds("Promise 17", "or -1 if there is none", """
            setColumns(4) 3
            run "row;row;pic12=1x1;" 3
            cellAt(0, 1) -1
            cellAt(1, 0) -1
            cellAt(1, 3) -1
            removeCell(0) 0
            cellAt(1, 1) -1
            cellAt(1, 2) -1
            """);
        Sentence.holds("Promise 17", "Throws `IndexOutOfBoundsException` if there is no such row or column", """
            cellAt(0, 0) !IndexOutOfBoundsException
            run "row;row;pic12=1x1;" 3
            cellAt(<0..1>, 0) !IndexOutOfBoundsException
            cellAt(0, <0..2>) !IndexOutOfBoundsException
            cellAt(5, 0) !IndexOutOfBoundsException
            """);
    }

    private static void lineCount() {
        Sentence.holds("Promise 18", "Returns the number of lines of a cell of a text kind", CELLS + """
            lineCount(0, 5) 3
            lineCount(0, 8) 3
            lineCount(0, 9) 2
            lineCount(0, 13) 1
            setKind(0, 1) 0
            lineCount(0, 5) 3
            setKind(0, 2) 1
            lineCount(0, 7) 3
            setKind(0, 3) 2
            lineCount(0, 13) 1
            """);
        Sentence.holds("Promise 18", "- `cell`: the cell", TableSentences.SIXTEEN_CELLS + """
            removeCell(15) 15
            run "cell31p=a/b;" 1
            lineCount(15, 9) 2
            """);
        Sentence.holds("Promise 18", "- `width`: the content width, at most 99", PIECE_OF_99 + """
            lineCount(0, 99) 1
            # the padding is not part of it
            setMeasure(2, 2) 0
            lineCount(0, 99) 1
            """);
        Sentence.holds("Promise 18", "Returns the number of lines.", """
            run "row;cell01p=a/b/c/d/e/f/g/h/i/j/k/l;" 2
            lineCount(0, 1) 12
            lineCount(0, 99) 12
            clearWords(0) 12
            lineCount(0, 0) 0
            lineCount(0, 99) 0
            """);
    }

    private static void lineCountRefused() {
        Sentence.holds("Promise 18", "Throws `IndexOutOfBoundsException` if there is no such cell", """
            lineCount(0, 9) !IndexOutOfBoundsException
            """ + CELLS + """
            lineCount(<0..2>, 9) !IndexOutOfBoundsException
            lineCount(3, 100) !IndexOutOfBoundsException
            """);
        Sentence.holds("Promise 18", "Throws `UnsupportedOperationException` if the cell is not of a text kind", CELLS + """
            lineCount(1, 9) !UnsupportedOperationException
            lineCount(2, 9) !UnsupportedOperationException
            lineCount(1, 100) !UnsupportedOperationException
            lineCount(2, -1) !UnsupportedOperationException
            """);
        Sentence.holds("Promise 18", "if the width is above 99 or less than the minimum content width", CELLS + """
            lineCount(0, <5..99>) !IllegalArgumentException
            lineCount(0, 5) 3
            lineCount(0, 99) 1
            setKind(0, 2) 0
            lineCount(0, <7..99>) !IllegalArgumentException
            # the minimum content width, not the minimum width
            setMeasure(2, 2) 0
            lineCount(0, 7) 3
            # no words
            clearWords(0) 3
            lineCount(0, <2..99>) !IllegalArgumentException
            setKind(0, 0) 2
            lineCount(0, <0..99>) !IllegalArgumentException
            # a minimum of 99, and one of 101
            new
            """ + PIECE_OF_99 + """
            lineCount(0, <99..99>) !IllegalArgumentException
            addWord(0, 1, 0) 9
            lineCount(0, 99) !IllegalArgumentException
            lineCount(0, 100) !IllegalArgumentException
            lineCount(0, 101) !IllegalArgumentException
            """);
    }

    private static void lineLength() {
        Sentence.holds("Promise 19", "Returns the length of a line of a cell of a text kind", CELLS + """
            lineLength(0, 5, 0) 3
            lineLength(0, 5, 1) 5
            lineLength(0, 5, 2) 5
            """);
        Sentence.holds("Promise 19", "- `cell`: the cell", TableSentences.SIXTEEN_CELLS + """
            removeCell(15) 15
            run "cell31p=a/bc;" 1
            lineLength(15, 9, 1) 2
            """);
        Sentence.holds("Promise 19", "- `width`: the content width, at most 99", PIECE_OF_99 + """
            lineLength(0, 99, 0) 99
            setMeasure(2, 2) 0
            lineLength(0, 99, 0) 99
            """);
        Sentence.holds("Promise 19", "- `line`: the index of the line, from 0", """
            run "row;cell01p=a/bc/d/e/f/g/h/i/j/k/l/mno;" 2
            lineLength(0, 9, 0) 1
            lineLength(0, 9, 1) 2
            lineLength(0, 9, 11) 3
            """);
        Sentence.holds("Promise 19", "Returns the length, without the indent", """
            run "row;cell01q=abc_de;" 2
            lineLength(0, 8, 0) 6
            lineLength(0, 7, 0) 3
            lineLength(0, 5, 1) 2
            setKind(0, 1) 2
            lineLength(0, 6, 0) 6
            """);
    }

    private static void lineLengthRefused() {
        Sentence.holds("Promise 19", "Throws `IndexOutOfBoundsException` if there is no such cell", """
            lineLength(0, 9, 0) !IndexOutOfBoundsException
            """ + CELLS + """
            lineLength(<0..2>, 9, 0) !IndexOutOfBoundsException
            lineLength(3, 100, 9) !IndexOutOfBoundsException
            """);
        Sentence.holds("Promise 19", "Throws `UnsupportedOperationException` if the cell is not of a text kind", CELLS + """
            lineLength(1, 9, 0) !UnsupportedOperationException
            lineLength(2, 9, 0) !UnsupportedOperationException
            lineLength(1, 100, 9) !UnsupportedOperationException
            """);
        Sentence.holds("Promise 19", "if the width is above 99 or less than the minimum content width", CELLS + """
            lineLength(0, <5..99>, 0) !IllegalArgumentException
            lineLength(0, 4, 9) !IllegalArgumentException
            lineLength(0, 100, -1) !IllegalArgumentException
            setMeasure(2, 2) 0
            lineLength(0, 5, 0) 3
            lineLength(0, 4, 0) !IllegalArgumentException
            """);
        Sentence.holds("Promise 19", "NoSuchElementException if there is no such line", CELLS + """
            lineLength(0, 5, <0..2>) !NoSuchElementException
            lineLength(0, 99, <0..0>) !NoSuchElementException
            # the lines of a heading are not doubled
            setKind(0, 1) 0
            lineLength(0, 5, 3) !NoSuchElementException
            # no words
            clearWords(0) 3
            lineLength(0, 0, 0) !NoSuchElementException
            lineLength(0, 99, 0) !NoSuchElementException
            """);
    }

    private static void cellHeight() {
        Sentence.holds("Promise 20", "Returns the height of a cell", CELLS + """
            cellHeight(0, 5) 3
            cellHeight(1, 4) 2
            cellHeight(2, 6) 4
            """);
        Sentence.holds("Promise 20", "- `cell`: the cell", TableSentences.SIXTEEN_CELLS + """
            setSize(15, 20, 20) 101
            cellHeight(15, 20) 20
            cellHeight(0, 20) 1
            """);
        Sentence.holds("Promise 20", "- `width`: the cell width, at most 99", PIECE_OF_99 + """
            cellHeight(0, 99) 1
            # the padding is part of it: content widths of 98 and 95
            new
            """ + WIDE + """
            cellHeight(0, 99) 1
            cellHeight(0, 98) 2
            setMeasure(2, 1) 0
            cellHeight(0, 99) 4
            setMeasure(2, 2) 1
            cellHeight(0, 99) 6
            """);
        Sentence.holds("Promise 20", "Returns the height.", CELLS + """
            clearWords(0) 3
            cellHeight(0, 0) 0
            setMeasure(2, 2) 0
            cellHeight(0, 4) 4
            setSize(1, 20, 20) 705
            cellHeight(1, 99) 24
            cellHeight(1, 14) 14
            """);
        Sentence.holds("Promise 20", "Throws `IndexOutOfBoundsException` if there is no such cell", """
            cellHeight(0, 9) !IndexOutOfBoundsException
            """ + CELLS + """
            cellHeight(<0..2>, 9) !IndexOutOfBoundsException
            cellHeight(3, 100) !IndexOutOfBoundsException
            """);
        Sentence.holds("Promise 20", "if the width is above 99 or less than the minimum width of the cell", CELLS + """
            cellHeight(0, <5..99>) !IllegalArgumentException
            cellHeight(1, <4..99>) !IllegalArgumentException
            cellHeight(2, <6..99>) !IllegalArgumentException
            # the minimum width, not the minimum content width
            setMeasure(2, 2) 0
            cellHeight(0, <9..99>) !IllegalArgumentException
            cellHeight(1, <8..99>) !IllegalArgumentException
            clearWords(0) 3
            cellHeight(0, <4..99>) !IllegalArgumentException
            new
            """ + PIECE_OF_99 + """
            cellHeight(0, <99..99>) !IllegalArgumentException
            setMeasure(2, 1) 0
            cellHeight(0, 99) !IllegalArgumentException
            cellHeight(0, 101) !IllegalArgumentException
            """);
    }

    private static void nextStep() {
        Sentence.holds("Promise 21", "the least cell width that is greater than a given one, at most 99", CELLS + """
            # 3 and 4 with a hyphen fit into 9, all into 13
            nextStep(0, 5) 9
            nextStep(0, 8) 9
            nextStep(0, 9) 13
            nextStep(0, 12) 13
            nextStep(0, 13) !NoSuchElementException
            setMeasure(2, 2) 0
            nextStep(0, 9) 13
            new
            """ + WIDE + """
            nextStep(0, 49) 99
            nextStep(0, 98) 99
            nextStep(0, 99) !NoSuchElementException
            """);
        Sentence.holds("Promise 21", "- `cell`: the cell", TableSentences.SIXTEEN_CELLS + """
            removeCell(15) 15
            run "cell31p=a_b;" 1
            nextStep(15, 1) 3
            """);
        Sentence.holds("Promise 21", "- `width`: the cell width, at most 99", CELLS + """
            setMeasure(2, 1) 0
            nextStep(0, 7) 11
            nextStep(0, 14) 15
            nextStep(0, 99) !NoSuchElementException
            """);
        Sentence.holds("Promise 21", "Returns that width", """
            # three lines at 2, two at 5 and one at 8, twice as high for a heading
            run "row;cell01h=ab_cd_ef;" 2
            nextStep(0, 2) 5
            nextStep(0, 4) 5
            nextStep(0, 5) 8
            nextStep(0, 7) 8
            # two lines that no width makes one
            run "cell11p=a/b;" 1
            nextStep(1, 1) !NoSuchElementException
            """);
    }

    private static void nextStepRefused() {
        Sentence.holds("Promise 21", "Throws `IndexOutOfBoundsException` if there is no such cell", """
            nextStep(0, 9) !IndexOutOfBoundsException
            """ + CELLS + """
            nextStep(<0..2>, 9) !IndexOutOfBoundsException
            nextStep(3, 100) !IndexOutOfBoundsException
            """);
        Sentence.holds("Promise 21", "if the width is above 99 or less than the minimum width of the cell", CELLS + """
            nextStep(0, <5..99>) !IllegalArgumentException
            nextStep(1, <4..99>) !IllegalArgumentException
            setMeasure(2, 2) 0
            nextStep(0, <9..99>) !IllegalArgumentException
            new
            """ + PIECE_OF_99 + """
            nextStep(0, <99..99>) !IllegalArgumentException
            """);
        Sentence.holds("Promise 21", "NoSuchElementException if there is no such step", CELLS + """
            nextStep(0, 13) !NoSuchElementException
            nextStep(0, 99) !NoSuchElementException
            # a picture only grows, an icon does not change, and no words are no lines
            nextStep(1, 4) !NoSuchElementException
            nextStep(1, 5) !NoSuchElementException
            nextStep(1, 6) !NoSuchElementException
            nextStep(1, 7) !NoSuchElementException
            nextStep(1, 99) !NoSuchElementException
            nextStep(2, 6) !NoSuchElementException
            clearWords(0) 3
            nextStep(0, 0) !NoSuchElementException
            # the step would be at 100 and at 101
            new
            """ + WIDE + """
            setMeasure(2, 1) 0
            nextStep(0, 51) !NoSuchElementException
            setMeasure(2, 0) 1
            clearWords(0) 8
            addWord(0, 12, 2) 1
            addWord(0, 12, 2) 2
            addWord(0, 12, 2) 3
            addWord(0, 11, 0) 4
            addWord(0, 12, 2) 5
            addWord(0, 12, 2) 6
            addWord(0, 12, 2) 7
            addWord(0, 10, 0) 8
            property(0, 6) 100
            nextStep(0, 50) !NoSuchElementException
            """);
    }
}
