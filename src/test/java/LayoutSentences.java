/** The sentences of the promises 22 to 31: columns, guesses and the heights of the layouts. */
final class LayoutSentences {
    /** The minimums are 5, 4 and 1, the maximums 9, 4 and 1: one line needs 9 in column 0, and the icon is 4 wide. */
    private static final String CELLS = """
        run "row;cell01p=abcde_abc;" 2
        addCell(0, 1, 1, 5) 1
        setSize(1, 4, 1) 101
        """;

    private LayoutSentences() {
    }

    static void check() {
        columnWidth();
        conflicts();
        guess();
        autoWidth();
        autoHeight();
        bestWidth();
        bestHeight();
        rowHeight();
        tallest();
        tallestRefused();
        heightFor();
        heightForRefused();
    }

    private static void columnWidth() {
        Sentence.holds("Promise 22", "Returns a width of a column", CELLS + """
            columnWidth(0, 0) 5
            columnWidth(1, 0) 4
            columnWidth(2, 0) 1
            columnWidth(0, 1) 9
            columnWidth(1, 1) 4
            columnWidth(2, 1) 1
            """);
        Sentence.holds("Promise 22", "- `column`: the column", """
            setColumns(4) 3
            run "row;pic01=2x1;pic31=8x1;" 3
            columnWidth(0, 1) 2
            columnWidth(3, 1) 8
            """);
        Sentence.holds("Promise 22", "2 for the effective percentage, 0 for a column that is not proportional", """
            setColumn(0, 2, 100) 0
            columnWidth(0, 2) 100
            setColumn(1, 2, 1) 0
            columnWidth(1, 2) 0
            setColumn(0, 2, 1) 300
            columnWidth(0, 2) 1
            columnWidth(1, 2) 1
            setColumn(0, 1, 36) 201
            columnWidth(0, 2) 0
            columnWidth(2, 2) 0
            setColumn(0, 0, 50) 136
            columnWidth(0, 2) 0
            """);
        Sentence.holds("Promise 22", "Returns the width or percentage", """
            setColumn(0, 1, 36) 0
            columnWidth(0, 0) 1
            columnWidth(0, 1) 36
            setColumn(0, 2, 40) 136
            columnWidth(0, 1) 1
            columnWidth(0, 2) 40
            """);
        Sentence.holds("Promise 22", "Throws `IndexOutOfBoundsException` if there is no such column", """
            columnWidth(<0..2>, 0) !IndexOutOfBoundsException
            columnWidth(3, 3) !IndexOutOfBoundsException
            setColumns(1) 3
            columnWidth(<0..0>, 2) !IndexOutOfBoundsException
            setColumns(4) 1
            columnWidth(<0..3>, 1) !IndexOutOfBoundsException
            """);
        Sentence.holds("Promise 22", "Throws `IllegalArgumentException` if what is not from 0 to 2", """
            columnWidth(0, <0..2>) !IllegalArgumentException
            """);
    }

    private static void conflicts() {
        Sentence.holds("Promise 23", "proportional columns whose effective percentage is less than their percentage", """
            conflicts() 0
            setColumn(0, 2, 100) 0
            conflicts() 0
            setColumn(1, 2, 1) 0
            conflicts() 2
            setColumn(0, 2, 99) 300
            conflicts() 0
            setColumn(1, 2, 2) 201
            conflicts() 2
            # not a fixed or an automatic one, whose effective percentage is 0
            setColumn(1, 1, 2) 202
            conflicts() 0
            setColumn(1, 0, 0) 102
            conflicts() 0
            """);
        Sentence.holds("Promise 23", "Returns the set, bit k for column k", """
            setColumns(4) 3
            setColumn(0, 2, 100) 0
            setColumn(1, 2, 100) 0
            setColumn(2, 2, 100) 0
            setColumn(3, 2, 100) 0
            conflicts() 14
            setColumn(1, 0, 0) 300
            conflicts() 12
            setColumn(2, 1, 9) 300
            conflicts() 8
            setColumn(0, 2, 60) 300
            setColumn(1, 2, 60) 0
            setColumn(3, 0, 0) 300
            conflicts() 2
            setColumns(1) 4
            setColumn(0, 2, 100) 0
            conflicts() 0
            """);
    }

    private static void guess() {
        Sentence.holds("Promise 24", "Returns a guess", CELLS + """
            guess(0, 0) 5
            guess(3, 0) 9
            guess(0, -1) 10
            guess(3, -1) 14
            """);
        Sentence.holds("Promise 24", "- `guess`: the guess, 0 to 3", CELLS + """
            setColumn(1, 2, 50) 0
            setColumn(2, 1, 7) 0
            guess(0, -1) 10
            guess(1, -1) 19
            guess(2, -1) 25
            guess(3, -1) 29
            """);
        Sentence.holds("Promise 24", "- `column`: the column, or -1 for the sum over all columns", """
            setColumns(4) 3
            run "row;pic01=2x1;pic31=8x1;" 3
            guess(3, 0) 2
            guess(3, 3) 8
            guess(3, -1) 12
            new
            setColumns(1) 3
            guess(3, 0) 1
            guess(3, -1) 1
            """);
        Sentence.holds("Promise 24", "Returns the width or the sum", """
            # greater than any table width
            setColumns(4) 3
            setColumn(0, 1, 36) 0
            setColumn(1, 1, 36) 0
            setColumn(2, 1, 36) 0
            setColumn(3, 1, 36) 0
            guess(2, 3) 36
            guess(2, -1) 144
            guess(1, -1) 4
            """);
        Sentence.holds("Promise 24", "Throws `IllegalArgumentException` if the guess is out of range", """
            guess(<0..3>, 0) !IllegalArgumentException
            guess(<0..3>, -1) !IllegalArgumentException
            guess(4, 3) !IllegalArgumentException
            """);
        Sentence.holds("Promise 24", "if the column is not -1 and there is no such column", """
            guess(0, <-1..2>) !IndexOutOfBoundsException
            guess(3, 3) !IndexOutOfBoundsException
            guess(0, -1) 3
            setColumns(1) 3
            guess(0, <-1..0>) !IndexOutOfBoundsException
            """);
    }

    private static void autoWidth() {
        Sentence.holds("Promise 25", "Returns the width of a column in the automatic layout", CELLS + """
            # 12 by 9, 4 and 1 is 7, 3 and 0, and 2 remain
            autoWidth(0) 17
            autoWidth(1) 8
            autoWidth(2) 1
            """);
        Sentence.holds("Promise 25", "- `column`: the column", """
            setColumns(4) 3
            setColumn(0, 1, 5) 0
            setColumn(3, 1, 7) 0
            autoWidth(0) 5
            autoWidth(3) 7
            setColumns(1) 4
            autoWidth(0) 28
            """);
        Sentence.holds("Promise 25", "Returns the width.", """
            # the greatest and the least
            setColumns(1) 3
            setMeasure(1, 0) 1
            setMeasure(0, 36) 30
            autoWidth(0) 36
            setColumns(4) 1
            setMeasure(1, 1) 0
            setMeasure(0, 9) 36
            autoWidth(0) 1
            """);
        Sentence.holds("Promise 25", "Throws `IndexOutOfBoundsException` if there is no such column", """
            autoWidth(<0..2>) !IndexOutOfBoundsException
            setColumns(4) 3
            setMeasure(0, 8) 30
            autoWidth(<0..3>) !IndexOutOfBoundsException
            """);
        Sentence.holds("Promise 25", "Throws `IllegalStateException` if there is no automatic layout", CELLS + """
            setMeasure(0, 14) 30
            autoWidth(0) 5
            autoWidth(2) 1
            setMeasure(0, 13) 14
            autoWidth(0) !IllegalStateException
            autoWidth(2) !IllegalStateException
            """);
    }

    private static void autoHeight() {
        Sentence.holds("Promise 26", "Returns the table height in the automatic layout", """
            # 6 and 6: the text has two lines, where the best layout has one
            setColumns(2) 3
            run "row;cell01p=abcd_abcd;" 2
            setColumn(0, 2, 40) 0
            setColumn(1, 2, 60) 0
            setMeasure(0, 18) 30
            autoWidth(0) 6
            autoHeight() 4
            bestHeight() 3
            """);
        Sentence.holds("Promise 26", "Returns the table height.", """
            # no rows, and six of them
            setMeasure(1, 0) 1
            autoHeight() 0
            run "row;row;row;row;row;row;" 6
            autoHeight() 0
            setMeasure(1, 2) 0
            autoHeight() 14
            """);
        Sentence.holds("Promise 26", "Throws `IllegalStateException` if there is no automatic layout", CELLS + """
            setMeasure(0, 14) 30
            autoHeight() 4
            setMeasure(0, 13) 14
            autoHeight() !IllegalStateException
            """);
    }

    private static void bestWidth() {
        Sentence.holds("Promise 27", "Returns the width of a column in the best layout", CELLS + """
            bestWidth(0) 9
            bestWidth(1) 4
            bestWidth(2) 13
            """);
        Sentence.holds("Promise 27", "- `column`: the column", """
            setColumns(4) 3
            setColumn(0, 1, 5) 0
            setColumn(3, 1, 7) 0
            bestWidth(0) 5
            bestWidth(1) 1
            bestWidth(3) 7
            setColumns(1) 4
            bestWidth(0) 28
            """);
        Sentence.holds("Promise 27", "Returns the width.", """
            setColumns(1) 3
            setMeasure(1, 0) 1
            setMeasure(0, 36) 30
            bestWidth(0) 36
            setColumns(4) 1
            setMeasure(1, 1) 0
            setMeasure(0, 9) 36
            bestWidth(0) 1
            bestWidth(3) 1
            """);
        Sentence.holds("Promise 27", "Throws `IndexOutOfBoundsException` if there is no such column", """
            bestWidth(<0..2>) !IndexOutOfBoundsException
            setColumns(4) 3
            setMeasure(0, 8) 30
            bestWidth(<0..3>) !IndexOutOfBoundsException
            """);
        Sentence.holds("Promise 27", "Throws `IllegalStateException` if there is no best layout", CELLS + """
            setMeasure(0, 14) 30
            bestWidth(0) 5
            setMeasure(0, 13) 14
            bestWidth(0) !IllegalStateException
            # a fixed column that is too wide, and just not
            setMeasure(0, 30) 13
            setColumn(2, 1, 18) 0
            bestWidth(0) !IllegalStateException
            setColumn(2, 1, 17) 118
            bestWidth(0) 5
            """);
    }

    private static void bestHeight() {
        Sentence.holds("Promise 28", "Returns the table height in the best layout", CELLS + """
            bestHeight() 3
            setMeasure(0, 18) 30
            bestHeight() 3
            setMeasure(0, 17) 18
            bestHeight() 4
            setMeasure(0, 14) 17
            bestHeight() 4
            """);
        Sentence.holds("Promise 28", "Returns the table height.", """
            # no rows, and six of them with the greatest heights
            setMeasure(1, 0) 1
            bestHeight() 0
            setMeasure(1, 2) 0
            setMeasure(2, 2) 0
            run "row;pic01=2x20;row;pic01=2x20;row;pic01=2x20;row;row;row;" 9
            setSize(0, 1, 20) 220
            bestHeight() 66
            addCell(5, 0, 1, 5) 3
            setSize(3, 1, 20) 101
            bestHeight() 90
            """);
        Sentence.holds("Promise 28", "Throws `IllegalStateException` if there is no best layout", CELLS + """
            setMeasure(0, 13) 30
            bestHeight() !IllegalStateException
            setMeasure(0, 14) 13
            bestHeight() 4
            """);
    }

    private static void rowHeight() {
        Sentence.holds("Promise 29", "Returns the height of a row in one of the two layouts", CELLS + """
            rowHeight(0, true) 1
            rowHeight(0, false) 1
            addRow() 1
            rowHeight(1, true) 0
            rowHeight(1, false) 0
            """);
        Sentence.holds("Promise 29", "- `row`: the row", """
            run "row;pic01=1x3;row;row;row;row;row;pic01=1x5;" 8
            rowHeight(0, true) 3
            rowHeight(1, true) 0
            rowHeight(5, true) 5
            rowHeight(5, false) 5
            """);
        Sentence.holds("Promise 29", "- `best`: false for the automatic layout, true for the best one", """
            # widths of 6 and 9
            setColumns(2) 3
            run "row;cell01p=abcd_abcd;" 2
            setColumn(0, 2, 40) 0
            setColumn(1, 2, 60) 0
            setMeasure(0, 18) 30
            rowHeight(0, false) 2
            rowHeight(0, true) 1
            """);
        Sentence.holds("Promise 29", "Returns the height.", """
            # the padding is part of it, the gap is not
            setMeasure(1, 2) 1
            setMeasure(2, 2) 0
            run "row;pic01=20x20;row;cell01p=a;row;" 5
            removeCell(1) 1
            addCell(1, 2, 1, 3) 1
            rowHeight(0, true) 14
            rowHeight(1, true) 4
            rowHeight(2, true) 0
            """);
        Sentence.holds("Promise 29", "Throws `IndexOutOfBoundsException` if there is no such row", """
            rowHeight(0, true) !IndexOutOfBoundsException
            rowHeight(0, false) !IndexOutOfBoundsException
            """ + CELLS + """
            rowHeight(<0..0>, true) !IndexOutOfBoundsException
            rowHeight(<0..0>, false) !IndexOutOfBoundsException
            setMeasure(0, 8) 30
            rowHeight(1, true) !IndexOutOfBoundsException
            run "row;row;row;row;row;" 5
            rowHeight(<0..5>, true) !IndexOutOfBoundsException
            """);
        Sentence.holds("Promise 29", "Throws `IllegalStateException` if there is no such layout", CELLS + """
            setMeasure(0, 13) 30
            rowHeight(0, true) !IllegalStateException
            rowHeight(0, false) !IllegalStateException
            # only one of them
            setMeasure(0, 30) 13
            setColumn(2, 1, 36) 0
            rowHeight(0, true) !IllegalStateException
            rowHeight(0, false) 2
            setColumn(0, 1, 9) 0
            rowHeight(0, false) 2
            """);
    }

    private static void tallest() {
        Sentence.holds("Promise 30", "the lowest cell among those with the greatest height of a row", """
            run "row;pic01=1x5;pic11=1x5;pic21=1x5;row;pic01=1x9;" 6
            tallest(0) 0
            setSize(0, 1, 4) 105
            tallest(0) 1
            setSize(1, 1, 4) 105
            tallest(0) 2
            setSize(2, 1, 4) 105
            tallest(0) 0
            # the lowest number, not the leftmost place
            removeCell(0) 3
            addCell(0, 0, 1, 4) 3
            setSize(3, 1, 4) 101
            tallest(0) 0
            cellAt(0, 0) 3
            """);
        Sentence.holds("Promise 30", "- `row`: the row", """
            run "row;pic01=1x5;row;row;row;row;row;pic01=1x2;" 8
            tallest(0) 0
            tallest(5) 1
            """);
        Sentence.holds("Promise 30", "Returns the number of the cell", """
            # heights of 0 are the greatest if there are no other ones
            addRow() 0
            addCell(0, 1, 1, 0) 0
            addCell(0, 2, 1, 3) 1
            tallest(0) 0
            addWord(1, 1, 0) 1
            tallest(0) 1
            """);
    }

    private static void tallestRefused() {
        Sentence.holds("Promise 30", "Throws `IndexOutOfBoundsException` if there is no such row", """
            tallest(0) !IndexOutOfBoundsException
            """ + CELLS + """
            tallest(<0..0>) !IndexOutOfBoundsException
            setMeasure(0, 8) 30
            tallest(1) !IndexOutOfBoundsException
            """);
        Sentence.holds("Promise 30", "Throws `IllegalStateException` if there is no best layout", CELLS + """
            addRow() 1
            setMeasure(0, 13) 30
            tallest(0) !IllegalStateException
            tallest(1) !IllegalStateException
            setMeasure(0, 14) 13
            tallest(0) 0
            # an automatic one is not enough
            setMeasure(0, 30) 14
            setColumn(2, 1, 36) 0
            autoHeight() 5
            tallest(0) !IllegalStateException
            """);
        Sentence.holds("Promise 30", "NoSuchElementException if the row has no cells", """
            run "row;row;row;pic01=1x1;" 4
            tallest(0) !NoSuchElementException
            tallest(1) !NoSuchElementException
            tallest(2) 0
            removeCell(0) 0
            tallest(2) !NoSuchElementException
            """);
    }

    private static void heightFor() {
        Sentence.holds("Promise 31", "Returns the table height for given column widths, whose sum does not matter", CELLS + """
            heightFor(5, 4, 1, 0) 4
            heightFor(8, 4, 1, 0) 4
            heightFor(9, 4, 1, 0) 3
            heightFor(36, 36, 36, 0) 3
            # nor do the table width and the fixed widths
            setMeasure(0, 8) 30
            setColumn(0, 1, 36) 0
            heightFor(5, 4, 1, 0) 4
            heightFor(36, 36, 36, 0) 3
            """);
        Sentence.holds("Promise 31", "Only as many of the widths are used as there are columns; the others are ignored", """
            setColumns(1) 3
            heightFor(1, 0, 37, -2147483648) 1
            heightFor(1, 2147483647, -1, 99) 1
            setColumns(2) 1
            heightFor(1, 1, 0, 37) 1
            heightFor(1, 0, 1, 1) !IllegalArgumentException
            setColumns(3) 2
            heightFor(1, 1, 1, 0) 1
            heightFor(1, 1, 1, 37) 1
            heightFor(1, 1, 0, 1) !IllegalArgumentException
            setColumns(4) 3
            heightFor(1, 1, 1, 0) !IllegalArgumentException
            heightFor(1, 1, 1, 37) !IllegalArgumentException
            heightFor(1, 1, 1, 1) 1
            """);
        for (int column = 0; column < 4; column++) {
            String name = String.valueOf("abcd".charAt(column));
            // The width of the column stands in the place of the %s, and the other ones are 1.
            String asked = "heightFor(1, 1, 1, 1) ".substring(0, 10 + 3 * column) + "%s"
                + "heightFor(1, 1, 1, 1) ".substring(11 + 3 * column);
            Sentence.holds("Promise 31", "- `" + name + "`: the width of column " + column + ", at most 36", """
                setColumns(4) 3
                run "row;cell%d1p=ab_cd;row;" 3
                """.formatted(column)
                + asked.formatted("2") + "5\n"
                + asked.formatted("4") + "5\n"
                + asked.formatted("5") + "4\n"
                + asked.formatted("36") + "4\n"
                + asked.formatted("<2..36>") + "!IllegalArgumentException\n");
        }
        Sentence.holds("Promise 31", "Returns the table height.", """
            # the least and the greatest widths of four columns: 4 * 1 + 3 * 2 and 4 * 36 + 3 * 2
            setColumns(4) 3
            setMeasure(1, 2) 1
            run "row;cell04p=abcde_abcd;" 2
            heightFor(1, 1, 1, 1) 5
            addWord(0, 1, 0) 3
            heightFor(1, 1, 1, 1) 6
            clearWords(0) 3
            addWord(0, 12, 0) 1
            addWord(0, 12, 0) 2
            addWord(0, 12, 0) 3
            addWord(0, 12, 0) 4
            addWord(0, 12, 0) 5
            addWord(0, 12, 0) 6
            addWord(0, 12, 0) 7
            addWord(0, 12, 0) 8
            addWord(0, 12, 0) 9
            addWord(0, 12, 0) 10
            addWord(0, 12, 0) 11
            # 142, and with 8 more the 150 exactly
            heightFor(36, 36, 36, 28) 5
            heightFor(36, 36, 36, 27) 6
            addWord(0, 7, 0) 12
            heightFor(36, 36, 36, 36) 5
            heightFor(36, 36, 36, 35) 6
            """);
    }

    private static void heightForRefused() {
        Sentence.holds("Promise 31", "if a width that is not ignored is above 36 or less than the minimum of its column", CELLS + """
            heightFor(<5..36>, 4, 1, 0) !IllegalArgumentException
            heightFor(5, <4..36>, 1, 0) !IllegalArgumentException
            heightFor(5, 4, <1..36>, 0) !IllegalArgumentException
            heightFor(36, 36, 36, 0) 3
            # a minimum of 37
            new
            setColumns(1) 3
            run "row;cell01p=abcdefghijkl~abcdefghijkl~abcdefghij;" 2
            columnWidth(0, 0) 36
            heightFor(36, 0, 0, 0) 3
            clearWords(0) 3
            addWord(0, 12, 2) 1
            addWord(0, 12, 2) 2
            addWord(0, 11, 2) 3
            columnWidth(0, 0) 37
            heightFor(36, 0, 0, 0) !IllegalArgumentException
            heightFor(37, 0, 0, 0) !IllegalArgumentException
            """);
    }
}
