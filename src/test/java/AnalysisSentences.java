/** The sentences of the promises 32 to 39: other table widths, cells that matter, raggedness and density. */
final class AnalysisSentences {
    /** There is a layout from the table width 14 on, with the table height 4, and 3 from 18 on. */
    private static final String CELLS = """
        run "row;cell01p=abcde_abc;" 2
        addCell(0, 1, 1, 5) 1
        setSize(1, 4, 1) 101
        """;
    /** One column without gaps: three lines from 12 on, two from 23 on and one at 36. */
    private static final String THREE_STEPS = """
        setColumns(1) 3
        setMeasure(1, 0) 1
        run "row;cell01p=abcdefghijkl_abcdefghijkl_abcdefghij;" 2
        """;

    private AnalysisSentences() {
    }

    static void check() {
        heightAt();
        narrowest();
        improvements();
        improvement();
        critical();
        criticalRefused();
        costOfWord();
        costOfWordRefused();
        ragged();
        raggedInFloats();
        raggedRefused();
        density();
        densityRefused();
    }

    private static void heightAt() {
        Sentence.holds("Promise 32", "Returns the table height of the best layout for another table width", CELLS + """
            heightAt(14) 4
            heightAt(17) 4
            heightAt(18) 3
            heightAt(30) 3
            # the table width stays what it is
            setMeasure(0, 17) 30
            bestHeight() 4
            heightAt(18) 3
            bestHeight() 4
            setMeasure(0, 17) 17
            """);
        Sentence.holds("Promise 32", "- `width`: the table width, 8 to 36", THREE_STEPS + """
            clearWords(0) 3
            heightAt(8) 0
            heightAt(36) 0
            addWord(0, 8, 1) 1
            heightAt(8) 1
            new
            """ + THREE_STEPS + """
            heightAt(36) 1
            heightAt(35) 2
            """);
        Sentence.holds("Promise 32", "Returns the table height.", THREE_STEPS + """
            heightAt(12) 3
            heightAt(22) 3
            heightAt(23) 2
            setMeasure(2, 2) 0
            heightAt(16) 7
            setMeasure(1, 2) 0
            heightAt(20) 11
            """);
        Sentence.holds("Promise 32", "Throws `IllegalArgumentException` if the width is out of range", CELLS + """
            heightAt(<8..36>) !IllegalArgumentException
            # also where there is no layout for any width
            setColumn(2, 1, 36) 0
            heightAt(7) !IllegalArgumentException
            heightAt(37) !IllegalArgumentException
            """);
        Sentence.holds("Promise 32", "NoSuchElementException if there is no best layout for this width", CELLS + """
            heightAt(8) !NoSuchElementException
            heightAt(13) !NoSuchElementException
            heightAt(14) 4
            setColumn(2, 1, 23) 0
            heightAt(35) !NoSuchElementException
            heightAt(36) 4
            setColumn(2, 1, 24) 123
            heightAt(36) !NoSuchElementException
            # all are fixed: one width only
            setColumn(0, 1, 9) 0
            setColumn(1, 1, 5) 0
            setColumn(2, 1, 6) 124
            heightAt(23) !NoSuchElementException
            heightAt(24) 3
            heightAt(25) !NoSuchElementException
            """);
    }

    private static void narrowest() {
        Sentence.holds("Promise 33", "the least table width from 8 to 36", """
            # 8, though three columns need only 7
            narrowest(1) 8
            heightAt(8) 1
            new
            """ + CELLS + """
            narrowest(4) 14
            # 36, and none
            setColumn(2, 1, 23) 0
            narrowest(4) 36
            setColumn(2, 1, 24) 123
            narrowest(4) !NoSuchElementException
            """);
        Sentence.holds("Promise 33", "whose table height is at most a given one", CELLS + """
            narrowest(2147483647) 14
            narrowest(5) 14
            narrowest(4) 14
            narrowest(3) 18
            narrowest(2) !NoSuchElementException
            """);
        Sentence.holds("Promise 33", "- `height`: the greatest table height", """
            # 0 is one, too
            setMeasure(1, 0) 1
            narrowest(0) 8
            narrowest(-1) !NoSuchElementException
            narrowest(2147483647) 8
            """);
        Sentence.holds("Promise 33", "Returns the table width", THREE_STEPS + """
            narrowest(3) 12
            narrowest(2) 23
            narrowest(1) 36
            # the present table width does not matter
            setMeasure(0, 8) 30
            narrowest(1) 36
            """);
        Sentence.holds("Promise 33", "NoSuchElementException if there is no such width", CELLS + """
            narrowest(2) !NoSuchElementException
            narrowest(0) !NoSuchElementException
            narrowest(-1) !NoSuchElementException
            narrowest(-2147483648) !NoSuchElementException
            setColumn(2, 1, 36) 0
            narrowest(2147483647) !NoSuchElementException
            """);
    }

    private static void improvements() {
        Sentence.holds("Promise 34", "Returns the number of improving widths", CELLS + """
            improvements() 2
            setColumn(0, 1, 9) 0
            improvements() 1
            """);
        Sentence.holds("Promise 34", "A table width from 8 to 36 is improving", THREE_STEPS + """
            # the last one at 36, then at 37
            improvements() 3
            clearWords(0) 3
            addWord(0, 12, 0) 1
            addWord(0, 12, 0) 2
            addWord(0, 11, 0) 3
            improvements() 2
            # the first one at 8
            clearWords(0) 3
            addWord(0, 8, 0) 1
            addWord(0, 8, 0) 2
            improvements() 2
            improvement(0) 8
            """);
        Sentence.holds("Promise 34", "is less than those of the best layouts for all lesser table widths from 8 on", """
            # always as high: only the first one
            improvements() 1
            # higher and higher
            setColumns(1) 3
            run "row;pic01=20x20;" 2
            improvements() 1
            # a picture above a text: 11 to 19, and less again, but not less than the least
            new
            setColumns(1) 3
            setMeasure(1, 0) 1
            run "row;pic01=16x16;row;cell01p=abcdefgh_abcdefgh_abcdefgh;" 4
            heightAt(8) 11
            heightAt(9) 12
            heightAt(16) 19
            heightAt(17) 18
            heightAt(36) 17
            improvements() 1
            """);
        Sentence.holds("Promise 34", "Returns the number.", """
            # none
            setColumn(0, 1, 36) 0
            improvements() 0
            # three lines from 8 on, two from 11 on and one from 23 on
            new
            setColumns(1) 3
            setMeasure(1, 0) 1
            run "row;cell01p=a_b_c_d_e_f_g_h_i_j_k_l;" 2
            heightAt(8) 3
            heightAt(11) 2
            heightAt(22) 2
            heightAt(23) 1
            improvements() 3
            """);
    }

    private static void improvement() {
        Sentence.holds("Promise 35", "Returns an improving width", CELLS + """
            improvement(0) 14
            improvement(1) 18
            """);
        Sentence.holds("Promise 35", "- `index`: its index in ascending order, from 0", THREE_STEPS + """
            improvement(0) 12
            improvement(1) 23
            improvement(2) 36
            """);
        Sentence.holds("Promise 35", "Returns the table width", """
            improvement(0) 8
            # the present table width does not matter
            setMeasure(0, 36) 30
            improvement(0) 8
            """);
        Sentence.holds("Promise 35", "NoSuchElementException if there is no such index", THREE_STEPS + """
            improvement(<0..2>) !NoSuchElementException
            # one, and none
            clearWords(0) 3
            improvement(0) 8
            improvement(<0..0>) !NoSuchElementException
            setColumn(0, 1, 7) 0
            improvement(0) !NoSuchElementException
            improvement(-1) !NoSuchElementException
            """);
    }

    private static void critical() {
        Sentence.holds("Promise 36", "the one whose removal would lower the table height of the best layout most", """
            run "row;pic01=1x3;row;pic01=1x5;row;pic01=1x4;" 6
            critical() 1
            setSize(2, 1, 6) 104
            critical() 2
            setSize(0, 1, 7) 103
            critical() 0
            # nothing is removed
            count(2) 3
            bestHeight() 22
            # the last of sixteen
            new
            """ + TableSentences.SIXTEEN_CELLS + """
            setSize(15, 1, 2) 101
            critical() 15
            """);
        Sentence.holds("Promise 36", "among ties the lowest one", """
            run "row;pic01=1x5;row;pic01=1x5;row;pic01=1x5;" 6
            critical() 0
            setSize(0, 1, 4) 105
            critical() 1
            """);
        Sentence.holds("Promise 36", "Cells without which there would be no best layout are left out", """
            # the picture of height 4 makes the fixed column as wide as the table
            setColumns(1) 3
            setMeasure(1, 0) 1
            setMeasure(0, 10) 30
            setColumn(0, 1, 5) 0
            run "row;pic01=20x9;row;pic01=1x3;" 4
            bestHeight() 7
            critical() 1
            # with no other cell there is none
            removeCell(1) 1
            bestHeight() 4
            critical() !NoSuchElementException
            # where the column is as wide without it, it is not left out
            setColumn(0, 1, 10) 105
            critical() 0
            """);
        Sentence.holds("Promise 36", "Returns the number of the cell", """
            # the number after a removal
            run "row;pic01=1x3;row;pic01=1x5;row;pic01=1x4;" 6
            critical() 1
            removeCell(0) 2
            critical() 0
            """);
    }

    private static void criticalRefused() {
        Sentence.holds("Promise 36", "Throws `IllegalStateException` if there is no best layout", CELLS + """
            setMeasure(0, 13) 30
            critical() !IllegalStateException
            setMeasure(0, 14) 13
            critical() 0
            # also where there would be one without a cell, and where there are no cells
            setColumn(2, 1, 2) 0
            critical() !IllegalStateException
            removeCell(1) 1
            critical() 0
            removeCell(0) 0
            setMeasure(0, 8) 14
            setColumns(4) 3
            critical() !IllegalStateException
            """);
        Sentence.holds("Promise 36", "NoSuchElementException if no removal of a cell would lower it", """
            critical() !NoSuchElementException
            # two that are equally high in one row, and one of height 0
            run "row;pic01=1x5;pic11=1x5;row;" 4
            addCell(1, 0, 1, 0) 2
            critical() !NoSuchElementException
            setSize(1, 1, 6) 105
            critical() 1
            # a table height of 0 is one, too
            new
            setMeasure(1, 0) 1
            critical() !NoSuchElementException
            addRow() 0
            addCell(0, 0, 1, 0) 0
            critical() !NoSuchElementException
            """);
    }

    private static void costOfWord() {
        for (int after = 0; after < 4; after++) {
            Sentence.holds("Promise 37", "after a space as the break after its present last word", """
                # one column of 12: 5 and 6 fit into one line, 5 and 7 do not, and 12 is the greatest word
                setColumns(1) 3
                setMeasure(1, 0) 1
                setMeasure(0, 12) 30
                addRow() 0
                addCell(0, 0, 1, 0) 0
                addWord(0, 5, %1$d) 1
                costOfWord(0, 1) 0
                costOfWord(0, 6) 0
                costOfWord(0, 7) 1
                costOfWord(0, 12) 1
                # nothing is added
                property(0, 4) 1
                bestHeight() 1
                """.formatted(after));
        }
        Sentence.holds("Promise 37", "Returns by how much the table height of the best layout would change", """
            # the break after the last word stays a fixed space
            addRow() 0
            addCell(0, 0, 1, 0) 0
            addWord(0, 5, 2) 1
            costOfWord(0, 12) 0
            addWord(0, 6, 0) 2
            property(0, 5) 12
            # the first word, also of a heading
            addCell(0, 1, 1, 1) 1
            removeCell(0) 1
            costOfWord(0, 1) 2
            """);
        Sentence.holds("Promise 37", "- `cell`: the cell", TableSentences.SIXTEEN_CELLS + """
            removeCell(15) 15
            addCell(3, 3, 1, 1) 15
            costOfWord(15, 1) 1
            """);
        Sentence.holds("Promise 37", "- `length`: the length of the word, 1 to 12", """
            setColumns(1) 3
            setMeasure(1, 0) 1
            setMeasure(0, 13) 30
            run "row;cell01p=abcdefghijk;" 2
            costOfWord(0, 1) 0
            costOfWord(0, 2) 1
            costOfWord(0, 12) 1
            """);
        Sentence.holds("Promise 37", "Returns the table height then minus the present one", """
            # less than 0: a word of 12 makes the fixed column of 4 wider, so that four lines become two
            setColumns(2) 3
            setMeasure(1, 0) 1
            setMeasure(0, 20) 30
            setColumn(0, 1, 4) 0
            run "row;cell01p=abcd_abcd_abcd_abcd;row;" 3
            addCell(1, 0, 1, 0) 1
            bestHeight() 4
            costOfWord(1, 4) 1
            costOfWord(1, 12) -1
            addWord(1, 12, 0) 1
            bestHeight() 3
            """);
    }

    private static void costOfWordRefused() {
        Sentence.holds("Promise 37", "Throws `IndexOutOfBoundsException` if there is no such cell", """
            costOfWord(0, 1) !IndexOutOfBoundsException
            """ + CELLS + """
            costOfWord(<0..1>, 1) !IndexOutOfBoundsException
            costOfWord(2, 13) !IndexOutOfBoundsException
            """);
        Sentence.holds("Promise 37", "Throws `UnsupportedOperationException` if the cell is not of a text kind",
            ClipSentences.CELLS_OF_ALL_KINDS + """
            costOfWord(4, 1) !UnsupportedOperationException
            costOfWord(5, 1) !UnsupportedOperationException
            costOfWord(4, 0) !UnsupportedOperationException
            costOfWord(0, 1) 1
            costOfWord(3, 1) 1
            """);
        Sentence.holds("Promise 37", "Throws `IllegalArgumentException` if the length is out of range", CELLS + """
            costOfWord(0, <1..12>) !IllegalArgumentException
            setMeasure(0, 8) 30
            costOfWord(0, 0) !IllegalArgumentException
            """);
        Sentence.holds("Promise 37", "Throws `IllegalStateException` if the cell has 12 words", """
            run "row;cell01p=a_b_c_d_e_f_g_h_i_j_k;" 2
            costOfWord(0, 1) 0
            addWord(0, 1, 0) 12
            costOfWord(0, 1) !IllegalStateException
            costOfWord(0, 12) !IllegalStateException
            """);
        Sentence.holds("Promise 37", "or there is no best layout now or then", """
            # then: 12 + 4 + 1 are more than 16
            """ + CELLS + """
            setMeasure(0, 20) 30
            costOfWord(0, 11) 1
            costOfWord(0, 12) !IllegalStateException
            setMeasure(0, 21) 20
            costOfWord(0, 12) 1
            # neither now nor then
            setMeasure(0, 13) 21
            costOfWord(0, 1) !IllegalStateException
            # now: the fixed column would be as wide as the table only with the word
            new
            setColumns(1) 3
            setMeasure(1, 0) 1
            setMeasure(0, 12) 30
            setColumn(0, 1, 5) 0
            addRow() 0
            addCell(0, 0, 1, 0) 0
            costOfWord(0, 12) !IllegalStateException
            addWord(0, 12, 0) 1
            bestHeight() 1
            # then: the fixed column would no longer be as wide as the table
            clearWords(0) 1
            setColumn(0, 1, 11) 105
            setMeasure(0, 11) 12
            costOfWord(0, 11) 1
            costOfWord(0, 12) !IllegalStateException
            """);
    }

    private static void ragged() {
        Sentence.holds("Promise 38", "the sum, over its lines in their order, of the square of the float slack / space", """
            # lines of 4 and 2 in 4
            setColumns(1) 3
            setMeasure(1, 2) 1
            setMeasure(0, 8) 30
            run "row;cell01p=abcd_ab;" 2
            raggednessBits(0) float 0.125
            # one line that is full: no slack
            clearWords(0) 2
            addWord(0, 4, 0) 1
            raggednessBits(0) float 0
            # the least line
            clearWords(0) 1
            addWord(0, 1, 0) 1
            raggednessBits(0) float 0.5625
            # a hyphen belongs to its line: 4 and 2
            clearWords(0) 1
            addWord(0, 3, 3) 1
            addWord(0, 2, 0) 2
            raggednessBits(0) float 0.125
            # the lines of a heading are not doubled; the padding and the indent are no space
            setKind(0, 1) 0
            raggednessBits(0) float 0.125
            setMeasure(0, 12) 8
            setMeasure(2, 2) 0
            raggednessBits(0) float 0.125
            setKind(0, 2) 1
            setMeasure(0, 14) 12
            raggednessBits(0) float 0.125
            """);
        Sentence.holds("Promise 38", "It is 0.0f if there are no lines", ClipSentences.CELLS_OF_ALL_KINDS + """
            raggednessBits(0) 0
            raggednessBits(1) 0
            raggednessBits(2) 0
            raggednessBits(3) 0
            addWord(0, 1, 0) 1
            clearWords(0) 1
            raggednessBits(0) 0
            # a width of 0 is left for the content
            setMeasure(1, 0) 1
            setMeasure(0, 8) 30
            raggednessBits(0) 0
            raggednessBits(2) 0
            """);
        Sentence.holds("Promise 38", "- `cell`: the cell", TableSentences.SIXTEEN_CELLS + """
            removeCell(15) 15
            addCell(3, 3, 1, 0) 15
            addWord(15, 1, 0) 1
            bestWidth(3) 22
            setMeasure(0, 12) 30
            bestWidth(3) 4
            raggednessBits(15) float 0.5625
            """);
    }

    private static void raggedInFloats() {
        String rows = """
            setColumns(1) 3
            setMeasure(1, 0) 1
            run "row;cell01p=abcdefghijkl/a/abcdefghijk/abc/a/abcdefg/ab;" 2
            """;
        float sum = 0.0f;
        for (int length : new int[] {12, 1, 11, 3, 1, 7, 2}) {
            float share = (float) (30 - length) / (float) 30;
            sum += share * share;
        }
        Sentence.holds("Promise 38", "divided by the number of lines, all with float arithmetic",
            rows + "raggednessBits(0) float " + sum / (float) 7 + "\n");
        float share = (float) 35 / (float) 36;
        // Twelve lines of the greatest raggedness: words of one letter in a column of 36.
        float all = 0.0f;
        for (int line = 0; line < 12; line++) {
            all += share * share;
        }
        Sentence.holds("Promise 38", "Returns the bits of the float, as by Float.floatToIntBits", """
            setColumns(1) 3
            setMeasure(1, 0) 1
            setMeasure(0, 36) 30
            run "row;cell01p=a/b/c/d/e/f/g/h/i/j/k/l;" 2
            """ + "raggednessBits(0) float " + all / (float) 12 + "\n" + """
            clearWords(0) 12
            raggednessBits(0) 0
            """
            // The least one that is not 0: eleven full lines of 12, and one of 11.
            + "setMeasure(0, 12) 36\n" + "addWord(0, 12, 0) %d\n".repeat(11).formatted(1, 2, 3, 4, 5, 6, 7, 8, 9, 10, 11)
            + "addWord(0, 11, 0) 12\n"
            + "raggednessBits(0) float " + ((float) 1 / (float) 12) * ((float) 1 / (float) 12) / (float) 12 + "\n");
    }

    private static void raggedRefused() {
        Sentence.holds("Promise 38", "Throws `IndexOutOfBoundsException` if there is no such cell", """
            raggednessBits(0) !IndexOutOfBoundsException
            """ + CELLS + """
            raggednessBits(<0..1>) !IndexOutOfBoundsException
            setMeasure(0, 8) 30
            raggednessBits(2) !IndexOutOfBoundsException
            """);
        Sentence.holds("Promise 38", "Throws `UnsupportedOperationException` if the cell is not of a text kind",
            ClipSentences.CELLS_OF_ALL_KINDS + """
            raggednessBits(4) !UnsupportedOperationException
            raggednessBits(5) !UnsupportedOperationException
            setMeasure(0, 8) 30
            raggednessBits(4) !UnsupportedOperationException
            """);
        Sentence.holds("Promise 38", "Throws `IllegalStateException` if there is no best layout", CELLS + """
            setMeasure(0, 13) 30
            raggednessBits(0) !IllegalStateException
            # also without lines, and where there is an automatic layout
            clearWords(0) 2
            setMeasure(0, 9) 13
            raggednessBits(0) !IllegalStateException
            setMeasure(0, 30) 9
            setColumn(0, 1, 36) 0
            autoWidth(1) 4
            raggednessBits(0) !IllegalStateException
            """);
    }

    private static void density() {
        Sentence.holds("Promise 39", "divided by the product of table width and table height, as a double", """
            # nothing in 30 * 1, then 4 letters in 30 * 3 and in 36 * 3
            densityBits() double 0/30
            run "row;cell01p=abc_d;" 2
            densityBits() double 4/90
            setMeasure(0, 36) 30
            densityBits() double 4/108
            # the automatic layout, not the best one: two lines in a column of 6
            new
            setColumns(2) 3
            run "row;cell01p=abcd_abcd;" 2
            setColumn(0, 2, 40) 0
            setColumn(1, 2, 60) 0
            setMeasure(0, 18) 30
            densityBits() double 8/72
            """);
        Sentence.holds("Promise 39", "The ink of a cell of a text kind is the sum of the lengths of its words", """
            # letters only; the lines of a heading are higher, but have no more ink
            setColumns(1) 3
            setMeasure(1, 0) 1
            run "row;cell01p=abcdefghijkl_abc-a~b/a;" 2
            densityBits() double 18/60
            setKind(0, 1) 0
            densityBits() double 18/120
            clearWords(0) 5
            addWord(0, 1, 0) 1
            densityBits() double 1/60
            # of sixteen cells, and of those that are left
            new
            """ + TableSentences.SIXTEEN_CELLS + """
            setSize(15, 2, 3) 101
            densityBits() double 21/330
            removeCell(15) 15
            densityBits() double 15/270
            """);
        Sentence.holds("Promise 39", "the lesser one of its width and its content width, times its content height", """
            setColumns(1) 3
            setMeasure(1, 0) 1
            setMeasure(0, 9) 30
            # narrower than the column, as wide, and wider: 10 / 9 * 9
            run "row;pic01=8x9;" 2
            densityBits() double 72/81
            setSize(0, 9, 9) 809
            densityBits() double 81/81
            setSize(0, 10, 10) 909
            densityBits() double 81/81
            setSize(0, 18, 20) 1010
            densityBits() double 90/90
            # without the padding; an icon
            setMeasure(2, 2) 0
            setMeasure(0, 13) 9
            densityBits() double 90/182
            setSize(0, 9, 20) 1820
            setKind(0, 5) 4
            densityBits() double 180/312
            """);
        Sentence.holds("Promise 39", "Returns the bits of the double, as by Double.doubleToLongBits", """
            # 0, 1, and one letter in six rows that are as high as padding and gaps make them
            densityBits() 0
            setColumns(1) 3
            setMeasure(1, 0) 1
            setMeasure(0, 8) 30
            run "row;cell01p=abcdefgh;" 2
            densityBits() 4607182418800017408
            run "pad=2;gap=2;width=36;" 3
            clearWords(0) 1
            addWord(0, 1, 0) 1
            run "row;row;row;row;row;" 5
            addCell(1, 0, 1, 0) 1
            addCell(2, 0, 1, 0) 2
            addCell(3, 0, 1, 0) 3
            addCell(4, 0, 1, 0) 4
            addCell(5, 0, 1, 0) 5
            densityBits() double 1/1404
            """);
    }

    private static void densityRefused() {
        Sentence.holds("Promise 39", "Throws `IllegalStateException` if there is no automatic layout", CELLS + """
            setMeasure(0, 13) 30
            densityBits() !IllegalStateException
            setMeasure(0, 14) 13
            densityBits() double 12/56
            # a best one is not asked for
            setColumn(2, 1, 36) 0
            bestHeight() !IllegalStateException
            densityBits() double 12/56
            """);
        Sentence.holds("Promise 39", "Throws `ArithmeticException` if the table height is 0", """
            setMeasure(1, 0) 1
            densityBits() !ArithmeticException
            run "row;row;row;row;row;row;" 6
            densityBits() !ArithmeticException
            addCell(0, 0, 3, 0) 0
            densityBits() !ArithmeticException
            # a gap, a padding or a word is enough
            setMeasure(1, 1) 0
            densityBits() double 0/210
            setMeasure(1, 0) 1
            setMeasure(2, 1) 0
            densityBits() double 0/60
            setMeasure(2, 0) 1
            addWord(0, 1, 0) 1
            densityBits() double 1/30
            """);
    }
}
