/** Promises 27 to 31: the best layout and heights for given widths. */
public final class LayoutTest {
    private LayoutTest() {
    }

    public static void main(String[] args) {
        bestWidth();
        bestHeight();
        rowHeight();
        tallest();
        heightFor();
        Promise.end();
    }

    private static void bestWidth() {
        Promise.check(27, ColumnsTest.TWO_CELLS + """
            # one of the cells has two lines in any case: the least widths come first
            bestWidth(0) 5
            bestWidth(1) 6
            bestWidth(2) 15
            bestWidth(3) !IndexOutOfBoundsException
            bestWidth(-1) !IndexOutOfBoundsException
            # wide enough for one line each: 9 and at least 20
            setMeasure(0, 36) 30
            bestWidth(0) 9
            bestWidth(1) 6
            bestWidth(2) 17
            # a fixed column has its width, a proportional one need not have its percentage
            setColumn(1, 1, 8) 0
            bestWidth(0) 9
            bestWidth(1) 8
            bestWidth(2) 15
            setColumn(1, 2, 90) 108
            bestWidth(0) 9
            bestWidth(1) 6
            # the last column is fixed: the one before takes the rest
            setColumn(1, 0, 0) 290
            setColumn(2, 1, 6) 0
            bestWidth(0) 9
            bestWidth(1) 17
            bestWidth(2) 6
            setMeasure(0, 19) 36
            bestWidth(0) !IllegalStateException
            bestWidth(3) !IndexOutOfBoundsException
            # all fixed: only if the sum is the usable width
            new
            setColumn(0, 1, 5) 0
            setColumn(1, 1, 6) 0
            setColumn(2, 1, 15) 0
            bestWidth(0) 5
            bestWidth(1) 6
            bestWidth(2) 15
            setColumn(2, 1, 14) 115
            bestWidth(0) !IllegalStateException
            setColumn(2, 1, 16) 114
            bestWidth(0) !IllegalStateException
            setMeasure(0, 31) 30
            bestWidth(2) 16
            # a fixed column is never less than its minimum
            setColumn(2, 0, 0) 116
            run "row;cell01p=abcdefghi;" 2
            bestWidth(0) 9
            bestWidth(1) 6
            bestWidth(2) 12
            """);
        Promise.check(27, """
            # a picture is least high where it is narrow, a text where it is wide
            setColumns(2) 3
            run "row;pic01=8x8;cell11p=abcd_abcd_abcd;" 3
            bestWidth(0) 4
            bestWidth(1) 23
            bestHeight() 6
            # 9 are usable: heights are 4 and 3 at 4 and 5
            setMeasure(0, 12) 30
            bestWidth(0) 4
            bestWidth(1) 5
            """);
    }

    private static void bestHeight() {
        Promise.check(28, ColumnsTest.TWO_CELLS + """
            bestHeight() 4
            setMeasure(0, 33) 30
            bestHeight() 3
            setMeasure(0, 32) 33
            bestHeight() 4
            setMeasure(0, 20) 32
            bestHeight() 4
            setMeasure(0, 19) 20
            bestHeight() !IllegalStateException
            setMeasure(0, 36) 19
            addRow() 1
            bestHeight() 4
            addCell(1, 0, 3, 1) 2
            bestHeight() 4
            addWord(2, 7, 0) 1
            bestHeight() 6
            setMeasure(1, 0) 1
            bestHeight() 3
            setColumn(0, 1, 8) 0
            bestHeight() 4
            clearWords(2) 1
            bestHeight() 2
            # a table height of 0 is one, too
            new
            setMeasure(1, 0) 1
            bestHeight() 0
            bestWidth(2) 28
            heightAt(8) 0
            narrowest(0) 8
            improvements() 1
            improvement(0) 8
            critical() !NoSuchElementException
            addRow() 0
            addCell(0, 0, 1, 0) 0
            bestHeight() 0
            raggednessBits(0) 0
            costOfWord(0, 3) 1
            new
            bestHeight() 1
            setMeasure(1, 2) 1
            bestHeight() 2
            run "row;row;row;row;row;row;" 6
            bestHeight() 14
            setMeasure(0, 10) 30
            bestHeight() !IllegalStateException
            setMeasure(0, 11) 10
            bestHeight() 14
            """);
    }

    private static void rowHeight() {
        Promise.check(29, ColumnsTest.TWO_CELLS + """
            addRow() 1
            addCell(1, 0, 1, 4) 2
            setSize(2, 10, 20) 101
            # at 9 in the automatic layout, at 5 in the best one
            autoWidth(0) 9
            rowHeight(1, false) 18
            bestWidth(0) 5
            rowHeight(1, true) 10
            rowHeight(0, false) 2
            rowHeight(0, true) 2
            addRow() 2
            rowHeight(2, false) 0
            rowHeight(2, true) 0
            rowHeight(3, true) !IndexOutOfBoundsException
            rowHeight(-1, false) !IndexOutOfBoundsException
            setMeasure(0, 8) 30
            rowHeight(0, true) !IllegalStateException
            rowHeight(0, false) !IllegalStateException
            rowHeight(3, false) !IndexOutOfBoundsException
            # only one of the layouts
            setMeasure(0, 36) 8
            setColumn(0, 1, 30) 0
            rowHeight(0, true) !IllegalStateException
            rowHeight(0, false) 2
            """);
    }

    private static void tallest() {
        Promise.check(30, ColumnsTest.TWO_CELLS + """
            tallest(0) 0
            # each of them in one line: the lowest number
            setMeasure(0, 36) 30
            tallest(0) 0
            # a heading of one line is as high as a paragraph of two
            setKind(1, 1) 0
            tallest(0) 0
            addWord(1, 12, 0) 3
            tallest(0) 1
            addRow() 1
            tallest(1) !NoSuchElementException
            addCell(1, 1, 1, 0) 2
            tallest(1) 2
            addCell(1, 0, 1, 3) 3
            tallest(1) 2
            addWord(3, 1, 0) 1
            tallest(1) 3
            tallest(2) !IndexOutOfBoundsException
            tallest(-1) !IndexOutOfBoundsException
            addRow() 2
            setMeasure(0, 8) 36
            tallest(0) !IllegalStateException
            tallest(2) !IllegalStateException
            tallest(3) !IndexOutOfBoundsException
            """);
    }

    private static void heightFor() {
        Promise.check(31, ColumnsTest.TWO_CELLS + """
            heightFor(5, 6, 5, 0) 4
            heightFor(9, 6, 5, -99) 4
            heightFor(9, 10, 10, 2147483647) 3
            heightFor(9, 10, 9, 37) 4
            heightFor(36, 36, 36, 99) 3
            heightFor(37, 36, 36, 9) !IllegalArgumentException
            heightFor(36, 37, 36, 9) !IllegalArgumentException
            heightFor(36, 36, 37, 9) !IllegalArgumentException
            heightFor(4, 6, 5, 9) !IllegalArgumentException
            heightFor(5, 5, 5, 9) !IllegalArgumentException
            heightFor(5, 6, 4, 9) !IllegalArgumentException
            heightFor(-2147483648, 6, 5, 9) !IllegalArgumentException
            # the type of a column does not matter
            setColumn(0, 1, 36) 0
            heightFor(5, 6, 5, 0) 4
            # nor does the table width, and the gaps widen a cell: 36 * 4 + 3 * 2 = 150
            new
            setColumns(4) 3
            setMeasure(0, 8) 30
            setMeasure(1, 2) 1
            run "row;cell01p=a;cell11p=b;cell21p=c;cell31p=d_e;row;" 6
            heightFor(1, 1, 1, 1) 8
            heightFor(1, 1, 1, 3) 7
            heightFor(36, 36, 36, 37) !IllegalArgumentException
            heightFor(1, 1, 1, 0) !IllegalArgumentException
            addCell(1, 0, 4, 0) 4
            addWord(4, 12, 0) 1
            addWord(4, 12, 0) 2
            addWord(4, 12, 0) 3
            addWord(4, 12, 0) 4
            addWord(4, 12, 0) 5
            addWord(4, 12, 0) 6
            addWord(4, 12, 0) 7
            addWord(4, 12, 0) 8
            addWord(4, 12, 0) 9
            addWord(4, 12, 0) 10
            addWord(4, 12, 0) 11
            heightFor(36, 36, 36, 36) 8
            heightFor(36, 36, 36, 28) 8
            addWord(4, 8, 0) 12
            # 11 * 12 + 8 + 11 = 151
            heightFor(36, 36, 36, 36) 9
            new
            setColumns(1) 3
            heightFor(1, 0, 0, 0) 1
            heightFor(36, 99, 99, 99) 1
            heightFor(0, 1, 1, 1) !IllegalArgumentException
            """);
    }
}
