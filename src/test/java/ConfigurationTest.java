/** Promises 1 to 11: a new object and the changes of the table. */
public final class ConfigurationTest {
    private ConfigurationTest() {
    }

    public static void main(String[] args) {
        newObject();
        setColumns();
        setMeasure();
        setColumn();
        addRow();
        addCell();
        removeCell();
        addWord();
        clearWords();
        setSize();
        setKind();
        Promise.end();
    }

    private static void newObject() {
        Promise.check(1, """
            count(0) 3
            count(1) 0
            count(2) 0
            errorPosition() -1
            append(0) 0
            setMeasure(0, 30) 30
            setMeasure(1, 1) 1
            setMeasure(2, 0) 0
            setColumn(0, 0, 0) 0
            setColumn(1, 0, 0) 0
            setColumn(2, 0, 0) 0
            bestHeight() 1
            autoHeight() 1
            restore() !IllegalStateException
            addRow() 0
            paste(0, 0, 0, 0) !NoSuchElementException
            paste(1, 0, 0, 0) !NoSuchElementException
            addCell(0, 0, 1, 0) 0
            copyTo(0, 0, 0) !IllegalStateException
            copyTo(1, 0, 0) !IllegalStateException
            """);
    }

    private static void setColumns() {
        Promise.check(2, """
            setColumns(4) 3
            count(0) 4
            setColumns(1) 4
            count(0) 1
            setColumns(0) !IllegalArgumentException
            setColumns(5) !IllegalArgumentException
            setColumns(-2147483648) !IllegalArgumentException
            setColumns(2147483647) !IllegalArgumentException
            # all columns become automatic, also when the number stays
            setColumns(2) 1
            setColumn(0, 1, 7) 0
            setColumn(1, 2, 100) 0
            setColumns(2) 2
            setColumn(0, 0, 0) 0
            setColumn(1, 0, 0) 0
            setColumn(1, 1, 30) 0
            setColumns(1) 2
            setColumns(3) 1
            setColumn(1, 0, 0) 0
            # rows are no obstacle, cells are
            addRow() 0
            setColumns(3) 3
            count(1) 1
            addCell(0, 0, 1, 0) 0
            setColumns(3) !IllegalStateException
            setColumns(0) !IllegalArgumentException
            setColumns(5) !IllegalArgumentException
            removeCell(0) 0
            setColumns(4) 3
            """);
    }

    private static void setMeasure() {
        Promise.check(3, """
            setMeasure(0, 8) 30
            setMeasure(0, 36) 8
            setMeasure(0, 7) !IllegalArgumentException
            setMeasure(0, 37) !IllegalArgumentException
            setMeasure(0, 20) 36
            setMeasure(1, 0) 1
            setMeasure(1, 2) 0
            setMeasure(1, 3) !IllegalArgumentException
            setMeasure(1, -1) !IllegalArgumentException
            setMeasure(1, 1) 2
            setMeasure(2, 2) 0
            setMeasure(2, 3) !IllegalArgumentException
            setMeasure(2, -1) !IllegalArgumentException
            setMeasure(2, 0) 2
            setMeasure(3, 1) !IndexOutOfBoundsException
            setMeasure(-1, 1) !IndexOutOfBoundsException
            setMeasure(3, 99) !IndexOutOfBoundsException
            # the measures act: 20 - 1 * 4 are usable
            setColumn(0, 2, 100) 0
            guess(1, 0) 16
            setMeasure(1, 2) 1
            guess(1, 0) 12
            autoHeight() 2
            addRow() 0
            addCell(0, 0, 1, 0) 0
            setMeasure(2, 2) 0
            property(0, 5) 4
            autoHeight() 8
            """);
    }

    private static void setColumn() {
        Promise.check(4, """
            setColumn(0, 1, 1) 0
            setColumn(0, 1, 36) 101
            setColumn(0, 2, 1) 136
            setColumn(0, 2, 100) 201
            setColumn(0, 0, -5) 300
            setColumn(0, 0, 2147483647) 0
            setColumn(1, 1, 0) !IllegalArgumentException
            setColumn(1, 1, 37) !IllegalArgumentException
            setColumn(1, 2, 0) !IllegalArgumentException
            setColumn(1, 2, 101) !IllegalArgumentException
            setColumn(1, 3, 5) !IllegalArgumentException
            setColumn(1, -1, 5) !IllegalArgumentException
            setColumn(3, 1, 5) !IndexOutOfBoundsException
            setColumn(-1, 1, 5) !IndexOutOfBoundsException
            setColumn(3, 7, 0) !IndexOutOfBoundsException
            setColumn(1, 1, 9) 0
            setColumn(2, 2, 50) 0
            guess(2, 1) 9
            guess(2, 2) 13
            setColumn(1, 0, 0) 109
            guess(2, 1) 1
            """);
    }

    private static void addRow() {
        Promise.check(5, """
            addRow() 0
            addRow() 1
            addRow() 2
            addRow() 3
            addRow() 4
            addRow() 5
            addRow() !IllegalStateException
            count(1) 6
            # the rows have no cells, so only the gaps are high
            bestHeight() 7
            cellAt(5, 0) -1
            rowHeight(5, true) 0
            """);
    }

    private static void addCell() {
        Promise.check(6, """
            addCell(0, 0, 1, 0) !IndexOutOfBoundsException
            addRow() 0
            addCell(0, 0, 1, 0) 0
            addCell(0, 1, 3, 0) !IllegalArgumentException
            addCell(0, 1, 2, 5) 1
            property(1, 0) 0
            property(1, 1) 1
            property(1, 2) 2
            property(1, 3) 5
            property(1, 4) 0
            property(1, 5) 1
            property(1, 6) 1
            addCell(0, 2, 1, 0) !IllegalStateException
            addCell(0, 0, 3, 0) !IllegalStateException
            addCell(0, 2, 1, 6) !IllegalArgumentException
            addCell(0, 2, 0, 0) !IllegalArgumentException
            addCell(1, 0, 1, 0) !IndexOutOfBoundsException
            addCell(-1, 0, 1, 0) !IndexOutOfBoundsException
            addCell(0, 3, 1, 9) !IndexOutOfBoundsException
            addCell(0, -1, 1, 0) !IndexOutOfBoundsException
            addRow() 1
            addCell(1, 0, 0, 0) !IllegalArgumentException
            addCell(1, 0, -1, 0) !IllegalArgumentException
            addCell(1, 0, 4, 0) !IllegalArgumentException
            addCell(1, 0, 2147483647, 0) !IllegalArgumentException
            addCell(1, 0, 1, -1) !IllegalArgumentException
            addCell(1, 0, 1, 6) !IllegalArgumentException
            addCell(1, 0, 3, 4) 2
            property(2, 2) 3
            setSize(2, 1, 1) 101
            # sixteen cells are the most
            new
            setColumns(4) 3
            run "row;row;row;row;row;" 5
            addCell(0, 0, 1, 0) 0
            addCell(0, 1, 1, 1) 1
            addCell(0, 2, 1, 2) 2
            addCell(0, 3, 1, 3) 3
            addCell(1, 0, 1, 4) 4
            addCell(1, 1, 1, 5) 5
            addCell(1, 2, 1, 0) 6
            addCell(1, 3, 1, 0) 7
            addCell(2, 0, 1, 0) 8
            addCell(2, 1, 1, 0) 9
            addCell(2, 2, 1, 0) 10
            addCell(2, 3, 1, 0) 11
            addCell(3, 0, 1, 0) 12
            addCell(3, 1, 1, 0) 13
            addCell(3, 2, 1, 0) 14
            addCell(3, 3, 1, 0) 15
            addCell(4, 0, 1, 0) !IllegalStateException
            addCell(4, 0, 5, 0) !IllegalArgumentException
            addCell(5, 0, 1, 0) !IndexOutOfBoundsException
            count(2) 16
            property(5, 3) 5
            """);
    }

    private static void removeCell() {
        Promise.check(7, """
            removeCell(0) !IndexOutOfBoundsException
            addRow() 0
            addCell(0, 0, 1, 0) 0
            addCell(0, 1, 1, 4) 1
            addCell(0, 2, 1, 5) 2
            setSize(2, 7, 3) 101
            removeCell(3) !IndexOutOfBoundsException
            removeCell(-1) !IndexOutOfBoundsException
            removeCell(1) 2
            property(1, 3) 5
            property(1, 1) 2
            property(1, 5) 7
            removeCell(2) !IndexOutOfBoundsException
            cellAt(0, 1) -1
            cellAt(0, 2) 1
            # the place is free again, and the new cell does not inherit anything
            addCell(0, 1, 1, 4) 2
            setSize(2, 1, 1) 101
            removeCell(0) 2
            property(0, 3) 5
            property(1, 3) 4
            addWord(0, 1, 0) !UnsupportedOperationException
            removeCell(0) 1
            removeCell(0) 0
            removeCell(0) !IndexOutOfBoundsException
            bestHeight() 2
            """);
    }

    private static void addWord() {
        Promise.check(8, """
            addWord(0, 1, 0) !IndexOutOfBoundsException
            addRow() 0
            addCell(0, 0, 1, 0) 0
            addCell(0, 1, 1, 4) 1
            addWord(0, 1, 0) 1
            addWord(0, 12, 3) 2
            property(0, 5) 12
            property(0, 6) 14
            addWord(0, 0, 0) !IllegalArgumentException
            addWord(0, 13, 0) !IllegalArgumentException
            addWord(0, 5, -1) !IllegalArgumentException
            addWord(0, 5, 4) !IllegalArgumentException
            addWord(1, 5, 0) !UnsupportedOperationException
            addWord(1, 0, 9) !UnsupportedOperationException
            addWord(2, 5, 0) !IndexOutOfBoundsException
            addWord(-1, 0, 9) !IndexOutOfBoundsException
            # now the hyphen behind the second word acts
            addWord(0, 2, 2) 3
            property(0, 5) 13
            property(0, 6) 16
            addWord(0, 3, 1) 4
            property(0, 6) 20
            addWord(0, 3, 0) 5
            addWord(0, 3, 0) 6
            addWord(0, 3, 0) 7
            addWord(0, 3, 0) 8
            addWord(0, 3, 0) 9
            addWord(0, 3, 0) 10
            addWord(0, 3, 0) 11
            addWord(0, 3, 0) 12
            addWord(0, 3, 0) !IllegalStateException
            addWord(0, 13, 0) !IllegalArgumentException
            addWord(0, 3, 4) !IllegalArgumentException
            property(0, 4) 12
            """);
    }

    private static void clearWords() {
        Promise.check(9, """
            clearWords(0) !IndexOutOfBoundsException
            run "row;cell01h=a_b_c;pic11=3x4;" 3
            clearWords(2) !IndexOutOfBoundsException
            clearWords(-1) !IndexOutOfBoundsException
            clearWords(1) !UnsupportedOperationException
            clearWords(0) 3
            property(0, 4) 0
            property(0, 3) 1
            property(0, 6) 0
            cellHeight(0, 5) 0
            clearWords(0) 0
            addWord(0, 4, 0) 1
            clearWords(0) 1
            """);
    }

    private static void setSize() {
        Promise.check(10, """
            setSize(0, 1, 1) !IndexOutOfBoundsException
            addRow() 0
            addCell(0, 0, 1, 4) 0
            addCell(0, 1, 1, 5) 1
            addCell(0, 2, 1, 3) 2
            setSize(0, 20, 1) 101
            setSize(0, 1, 20) 2001
            setSize(0, 7, 5) 120
            setSize(0, 0, 5) !IllegalArgumentException
            setSize(0, 21, 5) !IllegalArgumentException
            setSize(0, 5, 0) !IllegalArgumentException
            setSize(0, 5, 21) !IllegalArgumentException
            setSize(2, 5, 5) !UnsupportedOperationException
            setSize(2, 0, 0) !UnsupportedOperationException
            setSize(3, 0, 0) !IndexOutOfBoundsException
            setSize(-1, 1, 1) !IndexOutOfBoundsException
            property(0, 5) 4
            property(0, 6) 7
            setSize(1, 6, 2) 101
            property(1, 5) 6
            cellHeight(1, 6) 2
            setSize(1, 6, 2) 602
            """);
    }

    private static void setKind() {
        Promise.check(11, """
            setKind(0, 0) !IndexOutOfBoundsException
            run "row;cell01p=ab_c-d;pic11=7x5;" 3
            property(0, 5) 2
            setKind(0, 1) 0
            cellHeight(0, 2) 4
            setKind(0, 2) 1
            property(0, 5) 4
            setKind(0, 3) 2
            property(0, 5) 5
            property(0, 4) 3
            setKind(0, 0) 3
            property(0, 5) 2
            setKind(0, 0) 0
            setKind(1, 5) 4
            property(1, 5) 7
            setKind(1, 4) 5
            property(1, 5) 4
            setSize(1, 7, 5) 705
            setKind(0, 4) !UnsupportedOperationException
            setKind(0, 5) !UnsupportedOperationException
            setKind(1, 0) !UnsupportedOperationException
            setKind(1, 3) !UnsupportedOperationException
            setKind(1, 6) !IllegalArgumentException
            setKind(0, 6) !IllegalArgumentException
            setKind(0, -1) !IllegalArgumentException
            setKind(2, 6) !IndexOutOfBoundsException
            setKind(-1, 0) !IndexOutOfBoundsException
            """);
    }
}
