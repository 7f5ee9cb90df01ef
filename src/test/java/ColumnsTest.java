/** Promises 22 to 26: minimums and maximums, percentages, guesses and the automatic layout. */
public final class ColumnsTest {
    /** Minimums 5, 6, 5 and maximums 9, 11, 9: the second cell shares 9 by 1 and 1, then 9 by 6 and 5. */
    static final String TWO_CELLS = """
        addRow() 0
        addCell(0, 0, 1, 0) 0
        addWord(0, 5, 0) 1
        addWord(0, 3, 0) 2
        addCell(0, 1, 2, 0) 1
        addWord(1, 12, 0) 1
        addWord(1, 8, 0) 2
        """;

    private ColumnsTest() {
    }

    public static void main(String[] args) {
        columnWidth();
        columnWidthOfFixed();
        conflicts();
        guess();
        autoWidth();
        autoWidthBetweenGuesses();
        autoHeight();
        Promise.end();
    }

    private static void columnWidth() {
        Promise.check(22, TWO_CELLS + """
            columnWidth(0, 0) 5
            columnWidth(1, 0) 6
            columnWidth(2, 0) 5
            columnWidth(0, 1) 9
            columnWidth(1, 1) 11
            columnWidth(2, 1) 9
            columnWidth(2, 2) 0
            columnWidth(0, 3) !IllegalArgumentException
            columnWidth(0, -1) !IllegalArgumentException
            columnWidth(3, 0) !IndexOutOfBoundsException
            columnWidth(-1, 9) !IndexOutOfBoundsException
            setMeasure(2, 2) 0
            columnWidth(0, 0) 9
            columnWidth(0, 1) 13
            removeCell(1) 1
            columnWidth(1, 0) 1
            columnWidth(2, 1) 1
            # an empty column is 1 wide, and so is one with an empty text
            new
            columnWidth(0, 0) 1
            columnWidth(0, 1) 1
            run "row;row;" 2
            addCell(0, 0, 1, 0) 0
            columnWidth(0, 0) 1
            columnWidth(0, 1) 1
            # the greatest of several
            addCell(1, 0, 1, 5) 1
            setSize(1, 7, 1) 101
            addWord(0, 5, 0) 1
            addWord(0, 6, 0) 2
            columnWidth(0, 0) 7
            columnWidth(0, 1) 12
            # by span, not by number: 10 among the first two, then 20 among all
            new
            setMeasure(1, 0) 1
            run "row;row;" 2
            addCell(0, 0, 3, 5) 0
            setSize(0, 20, 1) 101
            addCell(1, 0, 2, 5) 1
            setSize(1, 10, 1) 101
            columnWidth(0, 0) 10
            columnWidth(1, 0) 9
            columnWidth(2, 0) 1
            columnWidth(0, 1) 10
            columnWidth(1, 1) 9
            columnWidth(2, 1) 1
            # of the same span by number: 10 among the last two, then 20 among the first two
            new
            setMeasure(1, 0) 1
            run "row;row;" 2
            addCell(0, 1, 2, 5) 0
            setSize(0, 10, 1) 101
            addCell(1, 0, 2, 5) 1
            setSize(1, 20, 1) 101
            columnWidth(0, 0) 4
            columnWidth(1, 0) 16
            columnWidth(2, 0) 5
            # in the other order there is nothing left to share
            removeCell(0) 1
            addCell(0, 1, 2, 5) 1
            setSize(1, 10, 1) 101
            columnWidth(0, 0) 10
            columnWidth(1, 0) 10
            columnWidth(2, 0) 1
            """);
    }

    private static void columnWidthOfFixed() {
        Promise.check(22, """
            # the maximum of a fixed column is its width, but at least the minimum
            setColumn(0, 1, 9) 0
            columnWidth(0, 0) 1
            columnWidth(0, 1) 9
            run "row;cell01p=abc_abcdefgh;row;" 3
            columnWidth(0, 0) 8
            columnWidth(0, 1) 9
            setColumn(0, 1, 5) 109
            columnWidth(0, 1) 8
            setColumn(0, 2, 5) 105
            columnWidth(0, 1) 12
            columnWidth(0, 2) 5
            # all to the column that is not fixed: 19 - 8 - 1
            addCell(1, 0, 2, 5) 1
            setSize(1, 20, 1) 101
            setColumn(0, 1, 5) 205
            columnWidth(0, 0) 8
            columnWidth(1, 0) 11
            columnWidth(1, 1) 11
            # a proportional column is not fixed
            setColumn(1, 2, 40) 0
            columnWidth(1, 0) 11
            columnWidth(1, 2) 40
            # both fixed: 17 by 4 and 8 is 5 and 11, and 1 remains
            removeCell(0) 1
            setColumn(0, 1, 4) 105
            setColumn(1, 1, 8) 240
            columnWidth(0, 0) 7
            columnWidth(1, 0) 12
            columnWidth(0, 1) 7
            columnWidth(1, 1) 12
            guess(2, 0) 7
            guess(2, 1) 12
            # only the columns of the cell count, wherever the fixed ones are
            new
            setColumn(1, 1, 4) 0
            setColumn(2, 1, 8) 0
            addRow() 0
            addCell(0, 1, 2, 5) 0
            setSize(0, 20, 1) 101
            columnWidth(0, 0) 1
            columnWidth(1, 0) 7
            columnWidth(2, 0) 12
            removeCell(0) 0
            addCell(0, 0, 2, 5) 0
            setSize(0, 20, 1) 101
            columnWidth(0, 0) 18
            columnWidth(1, 0) 1
            columnWidth(2, 0) 1
            """);
    }

    private static void conflicts() {
        Promise.check(23, """
            conflicts() 0
            setColumns(4) 3
            setColumn(0, 2, 60) 0
            conflicts() 0
            setColumn(1, 2, 40) 0
            conflicts() 0
            setColumn(1, 2, 41) 240
            conflicts() 2
            columnWidth(1, 2) 40
            setColumn(2, 1, 36) 0
            setColumn(3, 2, 1) 0
            conflicts() 10
            columnWidth(3, 2) 0
            columnWidth(2, 2) 0
            setColumn(0, 2, 100) 260
            conflicts() 10
            columnWidth(1, 2) 0
            setColumn(0, 0, 0) 300
            conflicts() 0
            columnWidth(1, 2) 41
            setColumn(0, 2, 99) 0
            setColumn(2, 2, 1) 136
            conflicts() 14
            """);
    }

    private static void guess() {
        Promise.check(24, TWO_CELLS + """
            guess(0, -1) 16
            guess(1, -1) 16
            guess(2, -1) 16
            guess(3, -1) 29
            guess(3, 1) 11
            guess(0, 1) 6
            # 26 * 30 / 100
            setColumn(0, 2, 30) 0
            setColumn(1, 1, 10) 0
            guess(0, 0) 5
            guess(1, 0) 7
            guess(1, 1) 1
            guess(2, 1) 10
            guess(3, 0) 7
            guess(3, 1) 10
            # 20 - 10 - 1 of the second cell
            guess(3, 2) 10
            guess(2, 2) 10
            guess(2, -1) 27
            guess(-1, 0) !IllegalArgumentException
            guess(4, 0) !IllegalArgumentException
            guess(4, 9) !IllegalArgumentException
            guess(0, 3) !IndexOutOfBoundsException
            guess(0, -2) !IndexOutOfBoundsException
            # a negative usable width, 8 - 2 * 5, leaves the minimum
            new
            setColumns(4) 3
            setMeasure(0, 8) 30
            setMeasure(1, 2) 1
            setColumn(0, 2, 100) 0
            guess(1, 0) 1
            guess(1, -1) 4
            guess(0, 4) !IndexOutOfBoundsException
            """);
    }

    private static void autoWidth() {
        Promise.check(25, """
            # the rest of 23 among the automatic columns by 1, 1, 1
            autoWidth(0) 9
            autoWidth(1) 9
            autoWidth(2) 8
            autoWidth(3) !IndexOutOfBoundsException
            autoWidth(-1) !IndexOutOfBoundsException
            # only among the automatic ones
            setColumn(0, 1, 4) 0
            autoWidth(0) 4
            autoWidth(1) 11
            autoWidth(2) 11
            # none: 6 among the fixed ones by 5 and 10
            setColumn(0, 1, 5) 104
            setColumn(1, 1, 10) 0
            setColumn(2, 2, 20) 0
            autoWidth(0) 7
            autoWidth(1) 14
            autoWidth(2) 5
            # none of these either: 5 by 31, 31, 31
            setColumn(0, 2, 30) 105
            setColumn(1, 2, 30) 110
            setColumn(2, 2, 30) 220
            autoWidth(0) 9
            autoWidth(1) 9
            autoWidth(2) 8
            # an effective percentage of 0 has the weight 1: 5 by 21, 61, 21 and 2 remain
            setColumn(0, 2, 20) 230
            setColumn(1, 2, 60) 230
            setColumn(2, 2, 20) 230
            autoWidth(0) 6
            autoWidth(1) 15
            autoWidth(2) 5
            # 25 by 1 + 1 and 3 + 1 is 8 and 16, and 1 remains
            setColumns(2) 3
            setColumn(0, 2, 1) 0
            setColumn(1, 2, 3) 0
            autoWidth(0) 10
            autoWidth(1) 17
            setColumns(3) 2
            # equal to guess 1: 15, 10 and the minimum 1
            setColumn(0, 2, 60) 0
            setColumn(1, 2, 70) 0
            setColumn(2, 2, 10) 0
            autoWidth(0) 15
            autoWidth(1) 10
            autoWidth(2) 1
            # there is none
            setColumns(4) 3
            setMeasure(0, 8) 30
            autoWidth(0) !IllegalStateException
            autoWidth(4) !IndexOutOfBoundsException
            setMeasure(0, 9) 8
            autoWidth(3) 1
            autoWidth(0) 1
            """);
    }

    private static void autoWidthBetweenGuesses() {
        Promise.check(25, """
            # between guess 0 and 1: 23 by 25, 0, 0
            setColumn(0, 2, 100) 0
            autoWidth(0) 24
            autoWidth(1) 1
            autoWidth(2) 1
            # between guess 1 and 2: 23 by 19, 19, 0 is 11 and 11, and 1 remains
            setColumn(0, 1, 20) 300
            setColumn(1, 1, 20) 0
            autoWidth(0) 13
            autoWidth(1) 12
            autoWidth(2) 1
            # between guess 2 and 3: 10 by 4, 5, 4 is 3, 3 and 3, and 1 remains
            new
            """ + TWO_CELLS + """
            autoWidth(0) 9
            autoWidth(1) 9
            autoWidth(2) 8
            # equal to guess 0
            setMeasure(0, 20) 30
            autoWidth(0) 5
            autoWidth(1) 6
            autoWidth(2) 5
            setMeasure(0, 19) 20
            autoWidth(0) !IllegalStateException
            # equal to guess 3
            setMeasure(0, 33) 19
            autoWidth(0) 9
            autoWidth(1) 11
            autoWidth(2) 9
            # 3 more by 9, 11, 9 is 0, 1 and 0, and 2 remain
            setMeasure(0, 36) 33
            autoWidth(0) 10
            autoWidth(1) 13
            autoWidth(2) 9
            # what remains is not given to a column whose weight is 0: 3 by 0, 5, 5
            new
            setMeasure(0, 20) 30
            run "row;cell11p=abcd_abcd;cell21p=abcd_abcd;" 3
            addCell(0, 0, 1, 5) 2
            setSize(2, 5, 1) 101
            autoWidth(0) 5
            autoWidth(1) 6
            autoWidth(2) 5
            """);
    }

    private static void autoHeight() {
        Promise.check(26, TWO_CELLS + """
            autoHeight() 4
            setMeasure(0, 36) 30
            autoHeight() 3
            setMeasure(1, 0) 1
            autoHeight() 1
            addRow() 1
            autoHeight() 1
            addCell(1, 1, 1, 4) 2
            setSize(2, 3, 7) 101
            autoHeight() 8
            setMeasure(1, 2) 0
            autoHeight() 14
            setMeasure(2, 1) 0
            setMeasure(0, 8) 36
            autoHeight() !IllegalStateException
            new
            autoHeight() 1
            setMeasure(1, 0) 1
            autoHeight() 0
            """);
    }
}
