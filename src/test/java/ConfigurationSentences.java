/** The sentences of the promises 1 to 11: a new object and the changes of the table. */
final class ConfigurationSentences {
    private ConfigurationSentences() {
    }

    static void check() {
        newObject();
        setColumns();
        setMeasure();
        setColumn();
        setColumnRefused();
        addRow();
        addCell();
        addCellRefused();
        removeCell();
        addWord();
        addWordRefused();
        clearWords();
        setSize();
        setSizeRefused();
        setKind();
        setKindRefused();
    }

    private static void newObject() {
        Sentence.holds("Promise 1", "Creates a table as it is at first, with an empty buffer", """
            count(0) 3
            count(1) 0
            count(2) 0
            setMeasure(0, 30) 30
            setMeasure(1, 1) 1
            setMeasure(2, 0) 0
            setColumn(0, 0, 0) 0
            setColumn(1, 0, 0) 0
            setColumn(2, 0, 0) 0
            append(0) 0
            errorPosition() -1
            restore() !IllegalStateException
            """);
    }

    private static void setColumns() {
        Sentence.holds("Promise 2", "Sets the number of columns", """
            setColumns(1) 3
            count(0) 1
            autoWidth(0) 28
            bestWidth(1) !IndexOutOfBoundsException
            setColumns(4) 1
            count(0) 4
            bestWidth(3) 22
            # rows are no obstacle, and stay
            addRow() 0
            setColumns(2) 4
            count(1) 1
            cellAt(0, 2) !IndexOutOfBoundsException
            """);
        Sentence.holds("Promise 2", "All columns become automatic", """
            setColumns(4) 3
            setColumn(0, 1, 36) 0
            setColumn(1, 2, 100) 0
            setColumn(2, 2, 1) 0
            setColumn(3, 1, 1) 0
            # also when the number stays
            setColumns(4) 4
            setColumn(0, 0, 0) 0
            setColumn(1, 0, 0) 0
            setColumn(2, 0, 0) 0
            setColumn(3, 1, 5) 0
            # and those that come back
            setColumns(1) 4
            setColumns(4) 1
            setColumn(3, 0, 0) 0
            conflicts() 0
            """);
        Sentence.holds("Promise 2", "- `columns`: the number, 1 to 4", """
            setColumns(1) 3
            setColumns(2) 1
            setColumns(3) 2
            setColumns(4) 3
            count(0) 4
            """);
        Sentence.holds("Promise 2", "Returns the previous number", """
            setColumns(4) 3
            setColumns(4) 4
            setColumns(1) 4
            setColumns(3) 1
            """);
        Sentence.holds("Promise 2", "Throws `IllegalArgumentException` if the number is out of range", """
            setColumn(0, 1, 36) 0
            setColumns(<1..4>) !IllegalArgumentException
            count(0) 3
            # also if there are cells
            run "row;cell01p=a;" 2
            setColumns(0) !IllegalArgumentException
            setColumns(5) !IllegalArgumentException
            """);
        Sentence.holds("Promise 2", "Throws `IllegalStateException` if there are cells", """
            setColumn(1, 1, 36) 0
            run "row;cell01p=a;" 2
            setColumns(1) !IllegalStateException
            setColumns(3) !IllegalStateException
            setColumns(4) !IllegalStateException
            setColumn(1, 1, 36) 136
            removeCell(0) 0
            setColumns(4) 3
            new
            """ + TableSentences.SIXTEEN_CELLS + """
            setColumns(4) !IllegalStateException
            """);
    }

    private static void setMeasure() {
        Sentence.holds("Promise 3", "Sets the table width, the gap or the padding", """
            # 36 - 2 * 4 are usable, the padding is in a cell, and two gaps are in the height
            setMeasure(0, 36) 30
            setMeasure(1, 2) 1
            setMeasure(2, 2) 0
            setColumn(0, 2, 100) 0
            guess(1, 0) 28
            addRow() 0
            addCell(0, 0, 1, 0) 0
            property(0, 5) 4
            bestHeight() 8
            """);
        Sentence.holds("Promise 3", "- `what`: 0 for the table width, 1 for the gap, 2 for the padding", """
            setMeasure(0, 9) 30
            setMeasure(1, 0) 1
            setMeasure(2, 1) 0
            setMeasure(0, 9) 9
            setMeasure(1, 0) 0
            setMeasure(2, 1) 1
            """);
        Sentence.holds("Promise 3", "- `value`: the new value", """
            setMeasure(0, 8) 30
            setMeasure(0, 36) 8
            setMeasure(1, 0) 1
            setMeasure(1, 2) 0
            setMeasure(2, 2) 0
            setMeasure(2, 0) 2
            """);
        Sentence.holds("Promise 3", "Returns the previous value", """
            setMeasure(0, 36) 30
            setMeasure(0, 8) 36
            setMeasure(0, 8) 8
            setMeasure(1, 2) 1
            setMeasure(1, 0) 2
            setMeasure(2, 2) 0
            setMeasure(2, 1) 2
            setMeasure(2, 0) 1
            """);
        Sentence.holds("Promise 3", "Throws `IndexOutOfBoundsException` if what is not from 0 to 2", """
            setMeasure(<0..2>, 1) !IndexOutOfBoundsException
            setMeasure(<0..2>, 30) !IndexOutOfBoundsException
            setMeasure(3, 99) !IndexOutOfBoundsException
            setMeasure(-1, -1) !IndexOutOfBoundsException
            """);
        Sentence.holds("Promise 3", "Throws `IllegalArgumentException` if the value is out of range", """
            setMeasure(0, <8..36>) !IllegalArgumentException
            setMeasure(1, <0..2>) !IllegalArgumentException
            setMeasure(2, <0..2>) !IllegalArgumentException
            # each has its own range
            setMeasure(0, 2) !IllegalArgumentException
            setMeasure(1, 8) !IllegalArgumentException
            setMeasure(2, 8) !IllegalArgumentException
            """);
    }

    private static void setColumn() {
        Sentence.holds("Promise 4", "Makes a column automatic, fixed or proportional", """
            setColumn(1, 1, 9) 0
            guess(2, 1) 9
            setColumn(1, 2, 50) 109
            guess(1, 1) 13
            columnWidth(1, 2) 50
            setColumn(1, 0, 50) 250
            guess(2, 1) 1
            columnWidth(1, 2) 0
            """);
        Sentence.holds("Promise 4", "- `column`: the column", """
            setColumns(4) 3
            setColumn(0, 1, 1) 0
            setColumn(3, 1, 4) 0
            guess(2, 0) 1
            guess(2, 1) 1
            guess(2, 3) 4
            """);
        Sentence.holds("Promise 4", "- `type`: 0 for automatic, 1 for fixed, 2 for proportional", """
            setColumn(0, 1, 1) 0
            setColumn(0, 2, 1) 101
            setColumn(0, 0, 1) 201
            setColumn(0, 0, 1) 0
            """);
        Sentence.holds("Promise 4", "the width, 1 to 36, or the percentage, 1 to 100; ignored for an automatic column", """
            setColumn(0, 1, 1) 0
            setColumn(0, 1, 36) 101
            setColumn(0, 2, 1) 136
            setColumn(0, 2, 100) 201
            setColumn(0, 0, 0) 300
            setColumn(0, 0, -1) 0
            setColumn(0, 0, 101) 0
            setColumn(0, 0, -2147483648) 0
            setColumn(0, 0, 2147483647) 0
            guess(3, 0) 1
            """);
        Sentence.holds("Promise 4", "Returns the previous specification: 0 for automatic, 100 plus the width for fixed", """
            setColumn(0, 0, 7) 0
            setColumn(0, 1, 36) 0
            setColumn(0, 1, 1) 136
            setColumn(0, 2, 100) 101
            setColumn(0, 2, 1) 300
            setColumn(0, 0, 0) 201
            setColumn(0, 0, 0) 0
            # not the effective percentage
            setColumn(0, 2, 100) 0
            setColumn(1, 2, 100) 0
            setColumn(1, 0, 0) 300
            """);
    }

    private static void setColumnRefused() {
        Sentence.holds("Promise 4", "Throws `IndexOutOfBoundsException` if there is no such column", """
            setColumn(<0..2>, 1, 5) !IndexOutOfBoundsException
            setColumn(<0..2>, 0, 0) !IndexOutOfBoundsException
            setColumn(3, 3, 0) !IndexOutOfBoundsException
            # a column that there was
            setColumns(4) 3
            setColumn(3, 1, 5) 0
            setColumns(1) 4
            setColumn(1, 1, 5) !IndexOutOfBoundsException
            setColumn(3, 1, 5) !IndexOutOfBoundsException
            """);
        Sentence.holds("Promise 4", "Throws `IllegalArgumentException` if the type", """
            setColumn(0, <0..2>, 5) !IllegalArgumentException
            """);
        Sentence.holds("Promise 4", "or a value that is not ignored is out of range", """
            setColumn(0, 1, 7) 0
            setColumn(0, 1, <1..36>) !IllegalArgumentException
            setColumn(0, 2, <1..100>) !IllegalArgumentException
            setColumn(0, 0, 0) 107
            """);
    }

    private static void addRow() {
        Sentence.holds("Promise 5", "Adds a row without cells", """
            addRow() 0
            count(1) 1
            count(2) 0
            cellAt(0, 0) -1
            cellAt(0, 2) -1
            rowHeight(0, false) 0
            tallest(0) !NoSuchElementException
            # the layouts that were asked for before have another height now
            bestHeight() 2
            autoHeight() 2
            addRow() 1
            bestHeight() 3
            autoHeight() 3
            heightAt(8) 3
            """);
        Sentence.holds("Promise 5", "Returns the number of the row", """
            addRow() 0
            addRow() 1
            run "row;row;" 2
            addRow() 4
            addRow() 5
            """);
        Sentence.holds("Promise 5", "Throws `IllegalStateException` if there are 6 rows", """
            run "row;row;row;row;row;" 5
            addRow() 5
            addRow() !IllegalStateException
            addRow() !IllegalStateException
            count(1) 6
            """);
    }

    private static void addCell() {
        Sentence.holds("Promise 6", "Adds a cell", """
            # without words, and 1 by 1
            addRow() 0
            addCell(0, 0, 1, 0) 0
            count(2) 1
            property(0, 4) 0
            addCell(0, 1, 1, 4) 1
            setSize(1, 20, 20) 101
            # also in the place of a cell that had some
            removeCell(1) 1
            addCell(0, 1, 1, 4) 1
            setSize(1, 1, 1) 101
            addWord(0, 5, 0) 1
            removeCell(0) 1
            addCell(0, 0, 1, 0) 1
            property(1, 4) 0
            property(1, 6) 0
            """);
        Sentence.holds("Promise 6", "- `row`: the row", """
            run "row;row;row;row;row;row;" 6
            addCell(0, 0, 1, 0) 0
            addCell(5, 0, 1, 0) 1
            property(0, 0) 0
            property(1, 0) 5
            """);
        Sentence.holds("Promise 6", "- `column`: its first column", """
            setColumns(4) 3
            addRow() 0
            addCell(0, 3, 1, 0) 0
            addCell(0, 0, 1, 0) 1
            addCell(0, 1, 2, 0) 2
            property(0, 1) 3
            property(1, 1) 0
            property(2, 1) 1
            """);
        Sentence.holds("Promise 6", "- `span`: its span, at least 1", """
            setColumns(4) 3
            run "row;row;row;" 3
            addCell(0, 0, 1, 0) 0
            addCell(1, 0, 4, 0) 1
            addCell(2, 2, 2, 0) 2
            property(0, 2) 1
            property(1, 2) 4
            property(2, 2) 2
            """);
        Sentence.holds("Promise 6", "- `kind`: its kind, 0 to 5", """
            addRow() 0
            addCell(0, 0, 1, 0) 0
            addCell(0, 2, 1, 5) 1
            property(0, 3) 0
            property(1, 3) 5
            """);
        Sentence.holds("Promise 6", "Returns the number of the cell", TableSentences.SIXTEEN_CELLS + """
            removeCell(15) 15
            addCell(3, 3, 1, 0) 15
            removeCell(0) 15
            removeCell(0) 14
            addCell(0, 0, 2, 0) 14
            """);
    }

    private static void addCellRefused() {
        Sentence.holds("Promise 6", "Throws `IndexOutOfBoundsException` if there is no such row or column", """
            addCell(0, 0, 1, 0) !IndexOutOfBoundsException
            run "row;row;" 2
            addCell(<0..1>, 0, 1, 0) !IndexOutOfBoundsException
            addCell(0, <0..2>, 1, 0) !IndexOutOfBoundsException
            addCell(2, 0, 0, 6) !IndexOutOfBoundsException
            addCell(0, 3, 0, 6) !IndexOutOfBoundsException
            # rows and columns that there could be
            addCell(5, 0, 1, 0) !IndexOutOfBoundsException
            setColumns(1) 3
            addCell(0, 1, 1, 0) !IndexOutOfBoundsException
            """);
        Sentence.holds("Promise 6", "Throws `IllegalArgumentException` if the kind is out of range", """
            addRow() 0
            addCell(0, 0, 1, <0..5>) !IllegalArgumentException
            """);
        Sentence.holds("Promise 6", "or the span is below 1 or reaches beyond the last column", """
            addRow() 0
            addCell(0, 0, <1..3>, 0) !IllegalArgumentException
            addCell(0, 1, <1..2>, 0) !IllegalArgumentException
            addCell(0, 2, <1..1>, 0) !IllegalArgumentException
            setColumns(4) 3
            addCell(0, 0, 5, 0) !IllegalArgumentException
            addCell(0, 0, 4, 0) 0
            """);
        Sentence.holds("Promise 6", "Throws `IllegalStateException` if there are 16 cells", TableSentences.SIXTEEN_CELLS + """
            addRow() 4
            addCell(4, 0, 1, 0) !IllegalStateException
            addCell(4, 0, 4, 5) !IllegalStateException
            addCell(4, 0, 5, 0) !IllegalArgumentException
            addCell(5, 0, 1, 0) !IndexOutOfBoundsException
            """);
        Sentence.holds("Promise 6", "or one of its columns is occupied in this row", """
            setColumns(4) 3
            run "row;row;pic12=1x1;" 3
            addCell(1, 0, 2, 0) !IllegalStateException
            addCell(1, 0, 3, 0) !IllegalStateException
            addCell(1, 0, 4, 0) !IllegalStateException
            addCell(1, 1, 1, 0) !IllegalStateException
            addCell(1, 1, 2, 0) !IllegalStateException
            addCell(1, 2, 1, 0) !IllegalStateException
            addCell(1, 2, 2, 0) !IllegalStateException
            addCell(0, 1, 2, 0) 1
            addCell(1, 0, 1, 0) 2
            addCell(1, 3, 1, 0) 3
            """);
    }

    private static void removeCell() {
        Sentence.holds("Promise 7", "Removes a cell", """
            run "row;cell01p=abc_de;pic12=9x7;" 3
            removeCell(1) 1
            cellAt(0, 1) -1
            cellAt(0, 2) -1
            columnWidth(1, 0) 1
            bestHeight() 3
            removeCell(0) 0
            bestHeight() 2
            # the row stays, and the place is free
            count(1) 1
            addCell(0, 0, 3, 0) 0
            """);
        Sentence.holds("Promise 7", "- `cell`: the cell", """
            run "row;cell01p=a;cell11h=a;cell21q=a;" 4
            removeCell(0) 2
            property(0, 3) 1
            removeCell(1) 1
            property(0, 3) 1
            cellAt(0, 1) 0
            """);
        Sentence.holds("Promise 7", "Returns the number of remaining cells", TableSentences.SIXTEEN_CELLS + """
            removeCell(15) 15
            removeCell(0) 14
            removeCell(13) 13
            new
            run "row;cell01p=a;" 2
            removeCell(0) 0
            """);
        Sentence.holds("Promise 7", "Throws `IndexOutOfBoundsException` if there is no such cell", """
            removeCell(0) !IndexOutOfBoundsException
            run "row;cell01p=a;cell11h=a;" 3
            removeCell(<0..1>) !IndexOutOfBoundsException
            removeCell(1) 1
            removeCell(1) !IndexOutOfBoundsException
            removeCell(0) 0
            removeCell(0) !IndexOutOfBoundsException
            """);
    }

    private static void addWord() {
        Sentence.holds("Promise 8", "Adds a word to a cell of a text kind", ClipSentences.CELLS_OF_ALL_KINDS + """
            addWord(0, 5, 0) 1
            property(0, 5) 5
            addWord(1, 5, 0) 1
            addWord(2, 5, 0) 1
            property(2, 5) 7
            addWord(3, 5, 0) 1
            addWord(0, 6, 0) 2
            property(0, 6) 12
            property(1, 4) 1
            """);
        Sentence.holds("Promise 8", "- `cell`: the cell", TableSentences.SIXTEEN_CELLS + """
            removeCell(15) 15
            addCell(3, 3, 1, 0) 15
            addWord(15, 5, 0) 1
            columnWidth(3, 0) 5
            columnWidth(0, 0) 1
            """);
        Sentence.holds("Promise 8", "- `length`: the length of the word, 1 to 12", """
            addRow() 0
            addCell(0, 0, 1, 0) 0
            addWord(0, 1, 1) 1
            addWord(0, 12, 1) 2
            lineLength(0, 12, 0) 1
            lineLength(0, 12, 1) 12
            """);
        Sentence.holds("Promise 8", "- `breakAfter`: the break after it, 0 to 3", """
            addRow() 0
            addCell(0, 0, 1, 0) 0
            addWord(0, 3, 0) 1
            addWord(0, 3, 3) 2
            addWord(0, 3, 2) 3
            addWord(0, 3, 1) 4
            addWord(0, 3, 0) 5
            # 3 and 3 with a hyphen, 3 and 3 joined, 3
            lineCount(0, 8) 3
            lineLength(0, 8, 0) 8
            lineLength(0, 8, 1) 7
            lineLength(0, 8, 2) 3
            """);
        Sentence.holds("Promise 8", "Returns the number of words of the cell", """
            run "row;cell01p=a_b_c_d_e_f_g_h_i_j;cell11p=a;" 3
            addWord(0, 1, 0) 11
            addWord(0, 1, 0) 12
            addWord(1, 1, 0) 2
            clearWords(0) 12
            addWord(0, 1, 0) 1
            """);
    }

    private static void addWordRefused() {
        Sentence.holds("Promise 8", "Throws `IndexOutOfBoundsException` if there is no such cell", """
            addWord(0, 1, 0) !IndexOutOfBoundsException
            run "row;cell01p=a;cell11h=a;" 3
            addWord(<0..1>, 1, 0) !IndexOutOfBoundsException
            addWord(2, 13, 4) !IndexOutOfBoundsException
            removeCell(0) 1
            addWord(1, 1, 0) !IndexOutOfBoundsException
            """);
        Sentence.holds("Promise 8", "Throws `UnsupportedOperationException` if the cell is not of a text kind",
            ClipSentences.CELLS_OF_ALL_KINDS + """
            addWord(4, 1, 0) !UnsupportedOperationException
            addWord(5, 1, 0) !UnsupportedOperationException
            addWord(4, 13, 4) !UnsupportedOperationException
            property(4, 4) 0
            """);
        Sentence.holds("Promise 8", "Throws `IllegalArgumentException` if the length or the break is out of range", """
            run "row;cell01p=a;" 2
            addWord(0, <1..12>, 0) !IllegalArgumentException
            addWord(0, 1, <0..3>) !IllegalArgumentException
            addWord(0, 12, 4) !IllegalArgumentException
            """);
        Sentence.holds("Promise 8", "Throws `IllegalStateException` if the cell has 12 words", TableSentences.TWELVE_WORDS + """
            addWord(0, 1, 0) !IllegalStateException
            addWord(0, 12, 3) !IllegalStateException
            setKind(0, 3) 0
            addWord(0, 1, 0) !IllegalStateException
            """);
    }

    private static void clearWords() {
        Sentence.holds("Promise 9", "Removes all words of a cell of a text kind", """
            run "row;cell01p=abc_de;cell11q=abc_de;" 3
            clearWords(0) 2
            property(0, 4) 0
            property(0, 5) 0
            property(0, 6) 0
            cellHeight(0, 0) 0
            # not those of another cell, and neither the kind nor the place
            property(1, 4) 2
            clearWords(1) 2
            property(1, 3) 2
            property(1, 5) 2
            property(1, 1) 1
            """);
        Sentence.holds("Promise 9", "- `cell`: the cell", """
            run "row;cell01p=a;cell11p=a_b;" 3
            clearWords(1) 2
            clearWords(0) 1
            """);
        Sentence.holds("Promise 9", "Returns the number of words that it had", TableSentences.TWELVE_WORDS + """
            clearWords(0) 12
            clearWords(0) 0
            addWord(0, 1, 0) 1
            clearWords(0) 1
            """);
        Sentence.holds("Promise 9", "Throws `IndexOutOfBoundsException` if there is no such cell", """
            clearWords(0) !IndexOutOfBoundsException
            run "row;cell01p=a;cell11p=a_b;" 3
            clearWords(<0..1>) !IndexOutOfBoundsException
            """);
        Sentence.holds("Promise 9", "Throws `UnsupportedOperationException` if the cell is not of a text kind",
            ClipSentences.CELLS_OF_ALL_KINDS + """
            setSize(4, 9, 7) 101
            clearWords(4) !UnsupportedOperationException
            clearWords(5) !UnsupportedOperationException
            setSize(4, 9, 7) 907
            """);
    }

    private static void setSize() {
        Sentence.holds("Promise 10", "Sets the size of a cell of kind 4 or 5", ClipSentences.CELLS_OF_ALL_KINDS + """
            setSize(4, 9, 7) 101
            property(4, 5) 5
            property(4, 6) 9
            cellHeight(4, 9) 7
            setSize(5, 9, 8) 101
            property(5, 5) 9
            cellHeight(5, 9) 8
            """);
        Sentence.holds("Promise 10", "- `cell`: the cell", TableSentences.SIXTEEN_CELLS + """
            setSize(15, 20, 20) 101
            setSize(0, 1, 1) 101
            setSize(15, 1, 1) 2020
            """);
        Sentence.holds("Promise 10", "- `width`: the width, 1 to 20", """
            run "row;pic01=9x9;" 2
            setSize(0, 1, 9) 909
            property(0, 6) 1
            setSize(0, 20, 9) 109
            property(0, 6) 20
            """);
        Sentence.holds("Promise 10", "- `height`: the height, 1 to 20", """
            run "row;pic01=9x9;" 2
            setSize(0, 9, 1) 909
            cellHeight(0, 9) 1
            setSize(0, 9, 20) 901
            cellHeight(0, 9) 20
            """);
        Sentence.holds("Promise 10", "Returns 100 times the previous width plus the previous height", """
            run "row;pic01=20x20;" 2
            setSize(0, 1, 20) 2020
            setSize(0, 20, 1) 120
            setSize(0, 1, 1) 2001
            setSize(0, 9, 7) 101
            setSize(0, 9, 7) 907
            """);
    }

    private static void setSizeRefused() {
        Sentence.holds("Promise 10", "Throws `IndexOutOfBoundsException` if there is no such cell", """
            setSize(0, 1, 1) !IndexOutOfBoundsException
            run "row;pic01=1x1;pic11=1x1;" 3
            setSize(<0..1>, 5, 5) !IndexOutOfBoundsException
            setSize(2, 0, 0) !IndexOutOfBoundsException
            """);
        Sentence.holds("Promise 10", "Throws `UnsupportedOperationException` if the cell is of a text kind",
            ClipSentences.CELLS_OF_ALL_KINDS + """
            setSize(0, 5, 5) !UnsupportedOperationException
            setSize(1, 5, 5) !UnsupportedOperationException
            setSize(2, 5, 5) !UnsupportedOperationException
            setSize(3, 5, 5) !UnsupportedOperationException
            setSize(3, 0, 21) !UnsupportedOperationException
            """);
        Sentence.holds("Promise 10", "Throws `IllegalArgumentException` if the width or the height is out of range", """
            run "row;pic01=9x7;" 2
            setSize(0, <1..20>, 5) !IllegalArgumentException
            setSize(0, 5, <1..20>) !IllegalArgumentException
            setSize(0, 0, 0) !IllegalArgumentException
            setSize(0, 21, 21) !IllegalArgumentException
            setKind(0, 5) 4
            setSize(0, <1..20>, 5) !IllegalArgumentException
            """);
    }

    private static void setKind() {
        Sentence.holds("Promise 11", "Changes the kind of a cell", """
            run "row;cell01p=ab_cd;pic11=9x7;" 3
            setKind(0, 1) 0
            property(0, 3) 1
            cellHeight(0, 9) 2
            setKind(0, 2) 1
            property(0, 5) 4
            setKind(0, 3) 2
            property(0, 5) 5
            setKind(0, 0) 3
            property(0, 5) 2
            setKind(1, 5) 4
            property(1, 5) 9
            setKind(1, 4) 5
            property(1, 5) 5
            # the layouts that were asked for before are other ones now
            new
            run "row;cell01p=ab_cd;" 2
            bestHeight() 3
            bestWidth(0) 5
            columnWidth(0, 0) 2
            setKind(0, 1) 0
            bestHeight() 4
            autoHeight() 4
            setKind(0, 2) 1
            bestHeight() 3
            bestWidth(0) 7
            columnWidth(0, 0) 4
            """);
        Sentence.holds("Promise 11", "The content is kept", TableSentences.TWELVE_WORDS + """
            setKind(0, 3) 0
            property(0, 4) 12
            setKind(0, 2) 3
            setKind(0, 0) 2
            property(0, 4) 12
            property(0, 6) 23
            # the breaks that a kind does not use, too
            new
            run "row;cell01p=ab-c_d/e~f;pic11=20x19;" 3
            setKind(0, 3) 0
            setKind(0, 0) 3
            property(0, 5) 3
            property(0, 6) 5
            lineCount(0, 3) 3
            setKind(1, 5) 4
            setSize(1, 20, 19) 2019
            setKind(1, 4) 5
            setSize(1, 20, 19) 2019
            """);
        Sentence.holds("Promise 11", "- `cell`: the cell", TableSentences.SIXTEEN_CELLS + """
            setKind(15, 5) 4
            property(15, 3) 5
            property(14, 3) 4
            setKind(0, 5) 4
            property(0, 3) 5
            """);
        Sentence.holds("Promise 11", "- `kind`: the new kind, 0 to 5", """
            run "row;cell01q=a;pic11=1x1;" 3
            setKind(0, 0) 2
            setKind(0, 3) 0
            setKind(1, 4) 4
            setKind(1, 5) 4
            """);
        Sentence.holds("Promise 11", "Returns the previous kind", """
            run "row;cell01p=a;pic11=1x1;" 3
            setKind(0, 0) 0
            setKind(0, 3) 0
            setKind(0, 1) 3
            setKind(0, 2) 1
            setKind(0, 2) 2
            setKind(1, 5) 4
            setKind(1, 5) 5
            """);
    }

    private static void setKindRefused() {
        Sentence.holds("Promise 11", "Throws `IndexOutOfBoundsException` if there is no such cell", """
            setKind(0, 0) !IndexOutOfBoundsException
            run "row;cell01p=a;pic11=1x1;" 3
            setKind(<0..1>, 0) !IndexOutOfBoundsException
            setKind(2, 6) !IndexOutOfBoundsException
            """);
        Sentence.holds("Promise 11", "Throws `IllegalArgumentException` if the kind is out of range", """
            run "row;cell01p=a;pic11=1x1;" 3
            setKind(0, <0..5>) !IllegalArgumentException
            setKind(1, <0..5>) !IllegalArgumentException
            """);
        StringBuilder crossed = new StringBuilder(ClipSentences.CELLS_OF_ALL_KINDS);
        for (int cell = 0; cell < 6; cell++) {
            for (int kind = 0; kind < 6; kind++) {
                if (cell < 4 != kind < 4) {
                    crossed.append("setKind(").append(cell).append(", ").append(kind).append(") ");
                    crossed.append("!UnsupportedOperationException\n");
                }
            }
        }
        Sentence.holds("Promise 11", "if one of the two kinds is a text kind and the other one is not", crossed.toString());
    }
}
