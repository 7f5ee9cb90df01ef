/** The sentences of the description about column widths, guesses and the two layouts. */
final class ColumnSentences {
    private ColumnSentences() {
    }

    static void check() {
        sharing();
        singleCells();
        fixedMaximum();
        order();
        sharingColumns();
        minimumOfWideCells();
        maximumOfWideCells();
        percentages();
        guesses();
        automaticExists();
        automaticGuess();
        automaticBetween();
        automaticRest();
        allowedWidths();
        leastHeight();
        bestExists();
    }

    private static void sharing() {
        Sentence.holds("Sharing", "gets amount * weight / total, rounded down", """
            # 19 by 1, 2 and 4 is 2, 5 and 10, and 2 remain
            run "row;" 1
            addCell(0, 0, 1, 5) 0
            addCell(0, 1, 1, 5) 1
            addCell(0, 2, 1, 5) 2
            setSize(1, 2, 1) 101
            setSize(2, 4, 1) 101
            autoWidth(0) 4
            autoWidth(1) 8
            autoWidth(2) 14
            # 14 by them is 2, 4 and 8, and nothing remains
            setMeasure(0, 25) 30
            autoWidth(0) 3
            autoWidth(1) 6
            autoWidth(2) 12
            """);
        Sentence.holds("Sharing", "then the characters that remain are given to these columns", """
            # 4 to 8 by 1, 1, 1, 1: none, one, two, three and none remain
            setColumns(4) 3
            setMeasure(1, 0) 1
            setMeasure(0, 8) 30
            autoWidth(0) 2
            autoWidth(3) 2
            setMeasure(0, 9) 8
            autoWidth(0) 3
            autoWidth(1) 2
            setMeasure(0, 10) 9
            autoWidth(1) 3
            autoWidth(2) 2
            setMeasure(0, 11) 10
            autoWidth(2) 3
            autoWidth(3) 2
            setMeasure(0, 12) 11
            autoWidth(0) 3
            autoWidth(3) 3
            """);
        Sentence.holds("Sharing", "leaving out those whose weight is 0", """
            # the differences of guess 3 and guess 2 are 0, 2, 0 and 2; 1, 2 and 3 are shared
            setColumns(4) 3
            setMeasure(1, 0) 1
            run "row;cell11p=a_b;cell31p=a_b;" 3
            addCell(0, 0, 1, 5) 2
            setSize(2, 5, 1) 101
            setMeasure(0, 9) 30
            autoWidth(0) 5
            autoWidth(1) 2
            autoWidth(2) 1
            autoWidth(3) 1
            setMeasure(0, 10) 9
            autoWidth(1) 2
            autoWidth(3) 2
            setMeasure(0, 11) 10
            autoWidth(0) 5
            autoWidth(1) 3
            autoWidth(2) 1
            autoWidth(3) 2
            """);
    }

    private static void singleCells() {
        Sentence.holds("Minimum and maximum column widths", "the greatest minimum width of the cells of span 1", """
            # in the first and in the last row, and not in another column
            run "row;row;row;" 3
            addCell(0, 0, 1, 5) 0
            addCell(1, 0, 1, 5) 1
            addCell(2, 0, 1, 5) 2
            setSize(0, 7, 1) 101
            setSize(1, 6, 1) 101
            columnWidth(0, 0) 7
            setSize(2, 8, 1) 101
            columnWidth(0, 0) 8
            columnWidth(0, 1) 8
            columnWidth(1, 0) 1
            """);
        Sentence.holds("Minimum and maximum column widths", "in this column, but at least 1", """
            # without cells, and with one of the minimum 0
            columnWidth(0, 0) 1
            addRow() 0
            addCell(0, 0, 1, 0) 0
            property(0, 5) 0
            columnWidth(0, 0) 1
            columnWidth(0, 1) 1
            # 1 and 2 are as they are
            addCell(0, 1, 1, 4) 1
            columnWidth(1, 0) 1
            addCell(0, 2, 1, 2) 2
            columnWidth(2, 0) 2
            columnWidth(2, 1) 2
            """);
        Sentence.holds("Minimum and maximum column widths", "the greatest maximum width of these cells, but at least", """
            columnWidth(0, 1) 1
            run "row;cell01p=ab_cd;row;cell01p=abcd;" 4
            columnWidth(0, 0) 4
            columnWidth(0, 1) 5
            addCell(1, 1, 1, 5) 2
            setSize(2, 20, 1) 101
            columnWidth(1, 1) 20
            columnWidth(0, 1) 5
            """);
    }

    private static void fixedMaximum() {
        Sentence.holds("Minimum and maximum column widths", "replaced by the greater one of the minimum and the fixed width", """
            # a minimum of 5 and a maximum of 11
            run "row;cell01p=abcde_fghij;" 2
            setColumn(0, 1, 4) 0
            columnWidth(0, 1) 5
            setColumn(0, 1, 5) 104
            columnWidth(0, 1) 5
            setColumn(0, 1, 6) 105
            columnWidth(0, 1) 6
            setColumn(0, 1, 36) 106
            columnWidth(0, 1) 36
            columnWidth(0, 0) 5
            setColumn(0, 1, 1) 136
            columnWidth(0, 1) 5
            setColumn(0, 2, 1) 101
            columnWidth(0, 1) 11
            """);
    }

    private static void order() {
        Sentence.holds("Minimum and maximum column widths", "considered in ascending order of span", """
            # 4 of 6, then 5 of 12, then 7 of 20
            setColumns(4) 3
            setMeasure(1, 0) 1
            run "row;row;row;" 3
            addCell(0, 0, 4, 5) 0
            setSize(0, 20, 1) 101
            addCell(1, 0, 3, 5) 1
            setSize(1, 12, 1) 101
            addCell(2, 0, 2, 5) 2
            setSize(2, 6, 1) 101
            columnWidth(0, 0) 10
            columnWidth(1, 0) 8
            columnWidth(2, 0) 1
            columnWidth(3, 0) 1
            """);
        Sentence.holds("Minimum and maximum column widths", "those of the same span in ascending order of number", """
            # 8 of 10 for 1 and 2, then 14 of 20 for 0 and 1
            setMeasure(1, 0) 1
            run "row;row;" 2
            addCell(0, 1, 2, 5) 0
            setSize(0, 10, 1) 101
            addCell(1, 0, 2, 5) 1
            setSize(1, 20, 1) 101
            columnWidth(0, 0) 4
            columnWidth(1, 0) 16
            columnWidth(2, 0) 5
            # the first one gets another number
            removeCell(0) 1
            addCell(0, 1, 2, 5) 1
            setSize(1, 10, 1) 101
            columnWidth(0, 0) 10
            columnWidth(1, 0) 10
            columnWidth(2, 0) 1
            """);
    }

    private static void sharingColumns() {
        Sentence.holds("Minimum and maximum column widths", "those of its columns that are not fixed", """
            # 8 for the only one that is not fixed, first or last; a proportional one is not fixed
            setColumns(2) 3
            setMeasure(1, 0) 1
            setColumn(0, 1, 4) 0
            addRow() 0
            addCell(0, 0, 2, 5) 0
            setSize(0, 10, 1) 101
            columnWidth(0, 0) 1
            columnWidth(1, 0) 9
            setColumn(1, 2, 3) 0
            columnWidth(1, 0) 9
            setColumn(1, 1, 4) 203
            setColumn(0, 2, 3) 104
            columnWidth(0, 0) 9
            columnWidth(1, 0) 1
            """);
        Sentence.holds("Minimum and maximum column widths", "or all its columns if all are fixed", """
            # 18 by 4 and 8; the third column is not one of the cell's
            setMeasure(1, 0) 1
            setColumn(0, 1, 4) 0
            setColumn(1, 1, 8) 0
            addRow() 0
            addCell(0, 0, 2, 5) 0
            setSize(0, 20, 1) 101
            columnWidth(0, 0) 7
            columnWidth(1, 0) 13
            columnWidth(2, 0) 1
            columnWidth(0, 1) 7
            columnWidth(1, 1) 13
            # nor is the first one
            new
            setMeasure(1, 0) 1
            setColumn(1, 1, 4) 0
            setColumn(2, 1, 8) 0
            addRow() 0
            addCell(0, 1, 2, 5) 0
            setSize(0, 20, 1) 101
            columnWidth(0, 0) 1
            columnWidth(1, 0) 7
            columnWidth(2, 0) 13
            """);
    }

    private static void minimumOfWideCells() {
        for (int gap = 0; gap <= 2; gap++) {
            Sentence.holds("Minimum and maximum column widths", "is greater than the sum of the minimums of its columns", """
                # less than the sum, the sum, and one more
                setColumns(2) 3
                setMeasure(1, %1$d) 1
                addRow() 0
                addCell(0, 0, 2, 5) 0
                columnWidth(0, 0) 1
                columnWidth(1, 0) 1
                setSize(0, %2$d, 1) 101
                columnWidth(0, 0) 1
                columnWidth(1, 0) 1
                setSize(0, %3$d, 1) %2$d01
                columnWidth(0, 0) 2
                columnWidth(1, 0) 1
                """.formatted(gap, gap + 2, gap + 3));
        }
        Sentence.holds("Minimum and maximum column widths", "by their maximums and added to their minimums", """
            # 6 by 5 and 1
            setColumns(2) 3
            setMeasure(1, 0) 1
            run "row;cell01p=a_b_c;row;" 3
            addCell(1, 0, 2, 5) 1
            setSize(1, 8, 1) 101
            columnWidth(0, 0) 6
            columnWidth(1, 0) 2
            """);
        Sentence.holds("Minimum and maximum column widths", "each maximum that is less than its minimum is raised to", """
            # from 5 and 1 to 6 and 2, so that there is nothing left for the maximum of the cell
            setColumns(2) 3
            setMeasure(1, 0) 1
            run "row;cell01p=a_b_c;row;" 3
            addCell(1, 0, 2, 5) 1
            setSize(1, 8, 1) 101
            columnWidth(0, 1) 6
            columnWidth(1, 1) 2
            # a maximum that is not less stays: the minimums are 2 and 1
            setSize(1, 3, 1) 801
            columnWidth(0, 0) 2
            columnWidth(0, 1) 5
            columnWidth(1, 1) 1
            """);
    }

    private static void maximumOfWideCells() {
        Sentence.holds("Minimum and maximum column widths", "is greater than the sum of the maximums of its columns", """
            # the maximums are 5 and 1; 6 is no more, 7 is one more, 9 is three more by 5 and 1
            setColumns(2) 3
            setMeasure(1, 0) 1
            run "row;cell01p=a_b_c;row;cell02p=ab_cde;" 4
            columnWidth(0, 0) 2
            columnWidth(0, 1) 5
            columnWidth(1, 1) 1
            clearWords(1) 2
            addWord(1, 3, 0) 1
            addWord(1, 3, 0) 2
            columnWidth(0, 0) 2
            columnWidth(0, 1) 6
            columnWidth(1, 1) 1
            clearWords(1) 2
            addWord(1, 3, 0) 1
            addWord(1, 5, 0) 2
            columnWidth(0, 0) 4
            columnWidth(1, 0) 1
            columnWidth(0, 1) 8
            columnWidth(1, 1) 1
            # the gap counts as in the minimum
            setMeasure(1, 2) 0
            columnWidth(0, 0) 2
            columnWidth(0, 1) 6
            columnWidth(1, 1) 1
            """);
        Sentence.holds("Minimum and maximum column widths", "by their maximums and added to their maximums", """
            # all are fixed: 8 by 4 and 8 is 2 and 5, and 1 remains
            setColumns(2) 3
            setMeasure(1, 0) 1
            setColumn(0, 1, 4) 0
            setColumn(1, 1, 8) 0
            run "row;cell02p=abcde_abcde_abcde_ab;" 2
            columnWidth(0, 0) 2
            columnWidth(1, 0) 3
            columnWidth(0, 1) 7
            columnWidth(1, 1) 13
            """);
    }

    private static void percentages() {
        Sentence.holds("Effective percentages", "the lesser one of its percentage and of 100 minus the sum", """
            setColumns(4) 3
            setColumn(0, 2, 60) 0
            setColumn(1, 2, 39) 0
            columnWidth(1, 2) 39
            setColumn(1, 2, 40) 239
            columnWidth(1, 2) 40
            setColumn(1, 2, 41) 240
            columnWidth(0, 2) 60
            columnWidth(1, 2) 40
            # nothing is left
            setColumn(2, 2, 1) 0
            setColumn(3, 2, 100) 0
            columnWidth(2, 2) 0
            columnWidth(3, 2) 0
            setColumn(0, 2, 100) 260
            columnWidth(0, 2) 100
            columnWidth(1, 2) 0
            # the others take nothing
            setColumn(0, 1, 36) 300
            setColumn(1, 0, 0) 241
            columnWidth(0, 2) 0
            columnWidth(1, 2) 0
            columnWidth(2, 2) 1
            columnWidth(3, 2) 99
            """);
    }

    private static void guesses() {
        Sentence.holds("Guesses", "There are four guesses", """
            guess(0, 0) 1
            guess(3, 0) 1
            guess(<0..3>, 0) !IllegalArgumentException
            """);
        Sentence.holds("Guesses", "Guess 0 is the minimum for all columns", """
            run "row;cell01p=a_bc;row;" 3
            setColumn(1, 1, 36) 0
            setColumn(2, 2, 100) 0
            guess(0, 0) 2
            guess(0, 1) 1
            guess(0, 2) 1
            guess(0, -1) 4
            """);
        Sentence.holds("Guesses", "the greater one of the minimum and of usable width * effective percentage / 100", """
            # a minimum of 7; 26 * 26 / 100 is 6, 26 * 27 / 100 is 7, 26 * 31 / 100 is 8
            addRow() 0
            addCell(0, 0, 1, 5) 0
            setSize(0, 7, 1) 101
            setColumn(0, 2, 26) 0
            guess(1, 0) 7
            setColumn(0, 2, 27) 226
            guess(1, 0) 7
            setColumn(0, 2, 30) 227
            guess(1, 0) 7
            setColumn(0, 2, 31) 230
            guess(1, 0) 8
            setColumn(0, 2, 100) 231
            guess(1, 0) 26
            # not the percentage, but the effective one
            setColumn(1, 2, 100) 0
            guess(1, 1) 1
            # the others have guess 0
            setColumn(0, 1, 36) 300
            guess(1, 0) 7
            setColumn(0, 0, 0) 136
            guess(1, 0) 7
            """);
        Sentence.holds("Guesses", "Guess 2 is, for a fixed column, the greater one of the minimum and the fixed width", """
            addRow() 0
            addCell(0, 0, 1, 5) 0
            setSize(0, 7, 1) 101
            setColumn(0, 1, 6) 0
            guess(2, 0) 7
            setColumn(0, 1, 7) 106
            guess(2, 0) 7
            setColumn(0, 1, 8) 107
            guess(2, 0) 8
            setColumn(0, 1, 36) 108
            guess(2, 0) 36
            # the others have guess 1
            setColumn(0, 2, 50) 136
            guess(2, 0) 13
            setColumn(0, 0, 0) 250
            guess(2, 0) 7
            """);
        Sentence.holds("Guesses", "Guess 3 is, for an automatic column, the maximum, and guess 2 for the others", """
            # a minimum of 5 and a maximum of 20
            run "row;cell01p=abcde_abcde_abcde_ab;" 2
            guess(3, 0) 20
            setColumn(0, 1, 6) 0
            guess(3, 0) 6
            setColumn(0, 2, 30) 106
            columnWidth(0, 1) 20
            guess(3, 0) 7
            setColumn(0, 2, 1) 230
            guess(3, 0) 5
            # the maximum of a fixed column may be greater than guess 3
            new
            setColumns(2) 3
            setMeasure(1, 0) 1
            setColumn(0, 1, 4) 0
            setColumn(1, 1, 8) 0
            run "row;cell02p=abcde_abcde_abcde_ab;" 2
            columnWidth(0, 1) 7
            guess(3, 0) 4
            guess(3, 1) 8
            guess(3, -1) 12
            """);
    }

    private static void automaticExists() {
        Sentence.holds("Automatic layout", "It exists if the usable width is at least the sum of guess 0", """
            # the minimums are 10, 8 and 8, and 30 - 4 are usable
            addRow() 0
            addCell(0, 0, 1, 5) 0
            setSize(0, 10, 1) 101
            addCell(0, 1, 1, 5) 1
            setSize(1, 8, 1) 101
            addCell(0, 2, 1, 5) 2
            setSize(2, 8, 1) 101
            autoWidth(0) 10
            autoWidth(1) 8
            autoWidth(2) 8
            autoHeight() 3
            setMeasure(0, 29) 30
            autoWidth(0) !IllegalStateException
            autoHeight() !IllegalStateException
            setMeasure(0, 31) 29
            autoWidth(0) 11
            # four columns of 1
            new
            setColumns(4) 3
            setMeasure(0, 8) 30
            autoWidth(0) !IllegalStateException
            setMeasure(0, 9) 8
            autoWidth(3) 1
            # a fixed column that is wider than the table
            new
            setColumn(0, 1, 36) 0
            autoWidth(0) 24
            """);
    }

    private static void automaticGuess() {
        Sentence.holds("Automatic layout", "Let k be the lowest guess whose sum is at least the usable width", """
            # guess 0 and guess 1 are less than 26, guess 2 is 26, guess 3 is more
            run "row;cell11p=a_b_c;" 2
            setColumn(0, 1, 24) 0
            guess(1, -1) 3
            guess(2, -1) 26
            guess(3, -1) 30
            autoWidth(0) 24
            autoWidth(1) 1
            # guess 1 is 27 already
            setColumn(2, 2, 100) 0
            guess(1, -1) 28
            autoWidth(0) 1
            autoWidth(1) 1
            autoWidth(2) 24
            """);
        Sentence.holds("Automatic layout", "If this sum equals the usable width, the column widths are guess k", """
            # guess 1: 93 percent of 26 are 24
            run "row;cell11p=a_b_c;" 2
            setColumn(0, 2, 93) 0
            guess(1, -1) 26
            autoWidth(0) 24
            autoWidth(1) 1
            autoWidth(2) 1
            # guess 3
            new
            run "row;cell01p=abcd_efghi;cell11p=abcd_efghi;cell21p=abc_de;" 4
            guess(3, -1) 26
            autoWidth(0) 10
            autoWidth(1) 10
            autoWidth(2) 6
            # guess 0
            setMeasure(0, 17) 30
            guess(0, -1) 13
            autoWidth(0) 5
            autoWidth(1) 5
            autoWidth(2) 3
            """);
    }

    private static void automaticBetween() {
        Sentence.holds("Automatic layout", "If it is greater, each column has the width of guess k - 1", """
            # k is 1: 22 by 14, 9 and 0 is 13 and 8, and 1 remains
            run "row;" 1
            addCell(0, 2, 1, 5) 0
            setSize(0, 2, 1) 101
            setColumn(0, 2, 60) 0
            setColumn(1, 2, 40) 0
            guess(1, -1) 27
            autoWidth(0) 15
            autoWidth(1) 9
            autoWidth(2) 2
            # k is 2: 23 by 19, 19 and 0
            new
            setColumn(0, 1, 20) 0
            setColumn(1, 1, 20) 0
            autoWidth(0) 13
            autoWidth(1) 12
            autoWidth(2) 1
            # k is 3, one less than guess 3: 12 by 5, 5 and 3 is 4, 4 and 2, and 2 remain
            new
            run "row;cell01p=abcd_efghi;cell11p=abcd_efghi;cell21p=abc_de;" 4
            setMeasure(0, 29) 30
            autoWidth(0) 10
            autoWidth(1) 10
            autoWidth(2) 5
            # one more than guess 2
            setMeasure(0, 18) 29
            autoWidth(0) 6
            autoWidth(1) 5
            autoWidth(2) 3
            """);
    }

    private static void automaticRest() {
        Sentence.holds("Automatic layout", "the rest is shared among the automatic columns by their maximums", """
            # 1 and 2 more than guess 3, by 10, 10 and 6
            run "row;cell01p=abcd_efghi;cell11p=abcd_efghi;cell21p=abc_de;" 4
            setMeasure(0, 31) 30
            autoWidth(0) 11
            autoWidth(1) 10
            autoWidth(2) 6
            setMeasure(0, 32) 31
            autoWidth(1) 11
            autoWidth(2) 6
            # all of it for the only automatic one
            setColumn(0, 1, 5) 0
            setColumn(1, 2, 10) 0
            autoWidth(0) 5
            autoWidth(1) 5
            autoWidth(2) 18
            """);
        Sentence.holds("Automatic layout", "if there are none, among the fixed columns by guess 3", """
            # 6 by 5 and 10, nothing for the proportional one
            setColumn(0, 1, 5) 0
            setColumn(1, 1, 10) 0
            setColumn(2, 2, 20) 0
            guess(3, -1) 20
            autoWidth(0) 7
            autoWidth(1) 14
            autoWidth(2) 5
            # one fixed column
            setColumn(1, 2, 1) 110
            autoWidth(0) 20
            autoWidth(1) 1
            autoWidth(2) 5
            """);
        Sentence.holds("Automatic layout", "if there are none of these either, among all columns by their effective percentages plus 1", """
            # 2 by 61, 41 and 1, where the last one has an effective percentage of 0: 1, 0 and 0, and 1 remains
            setColumn(0, 2, 60) 0
            setColumn(1, 2, 30) 0
            setColumn(2, 2, 1) 0
            guess(3, -1) 23
            autoWidth(0) 17
            autoWidth(1) 8
            autoWidth(2) 1
            # 25 by 2 and 4 is 8 and 16, and 1 remains
            new
            setColumns(2) 3
            setColumn(0, 2, 1) 0
            setColumn(1, 2, 3) 0
            autoWidth(0) 10
            autoWidth(1) 17
            # 5 by 21, 61 and 21, and the same with 0 in the place of the last 20
            new
            setColumn(0, 2, 20) 0
            setColumn(1, 2, 60) 0
            setColumn(2, 2, 20) 0
            autoWidth(0) 6
            autoWidth(1) 15
            autoWidth(2) 5
            new
            setColumns(1) 3
            setColumn(0, 2, 1) 0
            autoWidth(0) 28
            """);
    }

    private static void allowedWidths() {
        Sentence.holds("Best layout", "if their sum is the usable width", """
            # all are fixed: 25, 26 and 27
            setColumn(0, 1, 5) 0
            setColumn(1, 1, 6) 0
            setColumn(2, 1, 14) 0
            bestHeight() !IllegalStateException
            setColumn(2, 1, 15) 114
            bestHeight() 1
            bestWidth(0) 5
            bestWidth(1) 6
            bestWidth(2) 15
            setColumn(2, 1, 16) 115
            bestHeight() !IllegalStateException
            """);
        Sentence.holds("Best layout", "each of them is at least the minimum", """
            # the minimums are 10, 8 and 8
            addRow() 0
            addCell(0, 0, 1, 5) 0
            setSize(0, 10, 1) 101
            addCell(0, 1, 1, 5) 1
            setSize(1, 8, 1) 101
            addCell(0, 2, 1, 5) 2
            setSize(2, 8, 1) 101
            bestWidth(0) 10
            bestWidth(1) 8
            bestWidth(2) 8
            setMeasure(0, 31) 30
            bestWidth(0) 10
            bestWidth(2) 9
            setMeasure(0, 29) 31
            bestWidth(0) !IllegalStateException
            """);
        Sentence.holds("Best layout", "each fixed column has exactly its width of guess 2", """
            # the text would be lower in a wider column
            run "row;cell01p=abcd_abcd;" 2
            setColumn(0, 1, 8) 0
            bestWidth(0) 8
            bestHeight() 4
            setColumn(0, 1, 9) 108
            bestWidth(0) 9
            bestHeight() 3
            # less than the minimum, and the minimum
            setColumn(0, 1, 3) 109
            bestWidth(0) 4
            setColumn(0, 1, 4) 103
            bestWidth(0) 4
            # a proportional one may be narrower than guess 1
            setColumn(0, 2, 100) 104
            bestWidth(0) 9
            """);
    }

    private static void leastHeight() {
        Sentence.holds("Best layout", "among all allowed column widths, the least table height", """
            # 9 usable: the picture has 4 at 4 and 5 at 5, the text 3 at 4 and 2 at 9
            setColumns(2) 3
            run "row;pic01=8x8;row;cell11p=abcd_abcd;" 4
            setMeasure(0, 12) 30
            bestWidth(0) 4
            bestHeight() 9
            setMeasure(0, 16) 12
            bestWidth(0) 4
            bestWidth(1) 9
            bestHeight() 8
            # only one of two texts can have one line; the padding makes both cells higher and wider
            new
            setColumns(2) 3
            run "row;cell01p=abcd_abcd;row;cell11p=abcd_abcd;" 4
            setMeasure(0, 20) 30
            bestHeight() 6
            bestWidth(0) 4
            setMeasure(2, 2) 0
            setMeasure(0, 28) 20
            bestHeight() 14
            bestWidth(0) 8
            setMeasure(0, 29) 28
            bestHeight() 13
            bestWidth(0) 13
            """);
        Sentence.holds("Best layout", "of several, it is the one whose sequence", """
            # without cells all are equally high
            bestWidth(0) 1
            bestWidth(1) 1
            bestWidth(2) 24
            setColumn(2, 1, 3) 0
            bestWidth(0) 1
            bestWidth(1) 22
            bestWidth(2) 3
            setColumn(1, 1, 4) 0
            bestWidth(0) 19
            new
            setColumns(4) 3
            setMeasure(1, 0) 1
            setMeasure(0, 8) 30
            bestWidth(0) 1
            bestWidth(1) 1
            bestWidth(2) 1
            bestWidth(3) 5
            # one line at 9 and more, in any of the columns
            new
            run "row;cell01p=abcd_abcd;" 2
            bestWidth(0) 9
            bestWidth(1) 1
            bestWidth(2) 16
            new
            run "row;cell21p=abcd_abcd;" 2
            bestWidth(0) 1
            bestWidth(1) 1
            bestWidth(2) 24
            """);
    }

    private static void bestExists() {
        Sentence.holds("Best layout", "It exists if there are allowed column widths", """
            setColumns(4) 3
            setMeasure(0, 9) 30
            bestHeight() 1
            bestWidth(3) 1
            setMeasure(0, 8) 9
            bestHeight() !IllegalStateException
            bestWidth(3) !IllegalStateException
            # where there is an automatic layout there need not be a best one, and never the other way round
            new
            setColumn(0, 1, 24) 0
            bestWidth(0) 24
            setColumn(0, 1, 25) 124
            bestWidth(0) !IllegalStateException
            autoWidth(0) 24
            # no rows, and rows without cells
            new
            bestHeight() 1
            run "row;row;" 2
            bestHeight() 3
            """);
    }
}
