/** Promises 32 to 39: other table widths, cells that matter, raggedness and density. */
public final class AnalysisTest {
    private AnalysisTest() {
    }

    public static void main(String[] args) {
        heightAt();
        narrowest();
        improvements();
        improvement();
        critical();
        costOfWord();
        raggednessBits();
        raggednessInFloats();
        densityBits();
        Promise.end();
    }

    private static void heightAt() {
        Promise.check(32, ColumnsTest.TWO_CELLS + """
            heightAt(19) !NoSuchElementException
            heightAt(8) !NoSuchElementException
            heightAt(20) 4
            heightAt(32) 4
            heightAt(33) 3
            heightAt(36) 3
            heightAt(7) !IllegalArgumentException
            heightAt(37) !IllegalArgumentException
            heightAt(-2147483648) !IllegalArgumentException
            # the present width is not changed by it
            setMeasure(0, 30) 30
            bestHeight() 4
            setMeasure(1, 0) 1
            heightAt(8) !NoSuchElementException
            heightAt(17) 2
            heightAt(29) 2
            heightAt(30) 1
            new
            heightAt(8) 1
            heightAt(36) 1
            setColumn(0, 1, 30) 0
            heightAt(35) !NoSuchElementException
            heightAt(36) 1
            """);
    }

    private static void narrowest() {
        Promise.check(33, ColumnsTest.TWO_CELLS + """
            narrowest(2147483647) 20
            narrowest(4) 20
            narrowest(3) 33
            narrowest(2) !NoSuchElementException
            narrowest(0) !NoSuchElementException
            narrowest(-2147483648) !NoSuchElementException
            setColumn(0, 1, 36) 0
            narrowest(99) !NoSuchElementException
            new
            narrowest(1) 8
            narrowest(0) !NoSuchElementException
            setMeasure(1, 0) 1
            narrowest(0) 8
            narrowest(-1) !NoSuchElementException
            # a picture is higher in a wider table
            new
            setColumns(1) 3
            run "row;pic01=20x10;" 2
            narrowest(99) 12
            narrowest(7) 12
            narrowest(6) !NoSuchElementException
            """);
    }

    private static void improvements() {
        Promise.check(34, ColumnsTest.TWO_CELLS + """
            improvements() 2
            setMeasure(0, 8) 30
            improvements() 2
            addWord(0, 12, 0) 3
            improvements() 1
            setColumn(2, 1, 36) 0
            improvements() 0
            new
            improvements() 1
            # a growing picture never improves
            new
            setColumns(1) 3
            run "row;pic01=20x20;" 2
            improvements() 1
            # three lines from 9 on, two from 19 on, one from 29 on
            new
            setColumns(1) 3
            run "row;cell01p=abcdefghi_abcdefghi_abcdefghi;" 2
            improvements() 3
            """);
    }

    private static void improvement() {
        Promise.check(35, ColumnsTest.TWO_CELLS + """
            improvement(0) 20
            improvement(1) 33
            improvement(2) !NoSuchElementException
            improvement(-1) !NoSuchElementException
            improvement(2147483647) !NoSuchElementException
            setMeasure(0, 36) 30
            improvement(1) 33
            setColumn(2, 1, 36) 0
            improvement(0) !NoSuchElementException
            new
            improvement(0) 8
            improvement(1) !NoSuchElementException
            new
            setColumns(1) 3
            run "row;cell01p=abcdefghi_abcdefghi_abcdefghi;" 2
            improvement(0) 11
            improvement(1) 21
            improvement(2) 31
            improvement(3) !NoSuchElementException
            """);
    }

    private static void critical() {
        Promise.check(36, ColumnsTest.TWO_CELLS + """
            # without either of them the other one has one line
            critical() 0
            setMeasure(0, 36) 30
            critical() !NoSuchElementException
            addRow() 1
            addCell(1, 0, 1, 4) 2
            setSize(2, 1, 1) 101
            critical() 2
            # most, not first
            addRow() 2
            addCell(2, 1, 1, 4) 3
            setSize(3, 1, 5) 101
            critical() 3
            setMeasure(0, 19) 36
            critical() !IllegalStateException
            new
            critical() !NoSuchElementException
            setMeasure(0, 8) 30
            setColumns(4) 3
            setMeasure(1, 2) 1
            critical() !IllegalStateException
            # without the high cell the fixed column would be narrower, and nothing would fit
            new
            setColumns(1) 3
            setMeasure(1, 0) 1
            setMeasure(0, 10) 30
            setColumn(0, 1, 5) 0
            run "row;pic01=20x9;row;pic01=1x3;" 4
            property(0, 5) 10
            critical() 1
            removeCell(1) 1
            critical() !NoSuchElementException
            """);
    }

    private static void costOfWord() {
        Promise.check(37, ColumnsTest.TWO_CELLS + """
            setMeasure(0, 36) 30
            # 11 + 20 fit into 32, 13 + 20 do not
            costOfWord(0, 1) 0
            costOfWord(0, 2) 0
            costOfWord(0, 3) 1
            costOfWord(0, 12) 1
            costOfWord(0, 0) !IllegalArgumentException
            costOfWord(0, 13) !IllegalArgumentException
            costOfWord(2, 13) !IndexOutOfBoundsException
            costOfWord(-1, 1) !IndexOutOfBoundsException
            addRow() 1
            addCell(1, 0, 1, 5) 2
            costOfWord(2, 1) !UnsupportedOperationException
            costOfWord(2, 13) !UnsupportedOperationException
            # the first word
            addCell(1, 1, 1, 1) 3
            costOfWord(3, 1) 1
            setSize(2, 1, 2) 101
            costOfWord(3, 12) 0
            # no layout then: 12 + 6 + 5, and none now
            setMeasure(0, 20) 36
            costOfWord(0, 1) 0
            costOfWord(0, 5) 1
            costOfWord(0, 12) !IllegalStateException
            setMeasure(0, 19) 20
            costOfWord(0, 1) !IllegalStateException
            costOfWord(0, 13) !IllegalArgumentException
            # the break behind the present last word counts as a space, and stays what it is
            new
            run "row;" 1
            addCell(0, 0, 1, 0) 0
            addWord(0, 3, 1) 1
            costOfWord(0, 3) 0
            addWord(0, 3, 0) 2
            bestHeight() 4
            costOfWord(0, 12) 0
            new
            setColumns(1) 3
            run "row;" 1
            setMeasure(0, 8) 30
            addCell(0, 0, 1, 0) 0
            addWord(0, 5, 2) 1
            costOfWord(0, 6) 1
            addWord(0, 6, 0) 2
            bestHeight() !IllegalStateException
            # twelve words
            new
            run "row;cell01p=a_b_c_d_e_f_g_h_i_j_k;" 2
            costOfWord(0, 1) 0
            addWord(0, 1, 0) 12
            costOfWord(0, 1) !IllegalStateException
            costOfWord(0, 0) !IllegalArgumentException
            """);
    }

    private static void raggednessBits() {
        Promise.check(38, """
            setColumns(1) 3
            setMeasure(0, 8) 30
            setMeasure(1, 2) 1
            run "row;cell01p=abcd_ab;" 2
            # lines of 4 and 2 in a space of 4: (0 + 0.25) / 2
            raggednessBits(0) float 0.125
            setKind(0, 1) 0
            raggednessBits(0) float 0.125
            # the indent is no space
            setMeasure(1, 1) 2
            setKind(0, 2) 1
            raggednessBits(0) float 0.125
            # nor is the padding
            setMeasure(0, 12) 8
            setMeasure(2, 2) 0
            raggednessBits(0) float 0.125
            clearWords(0) 2
            raggednessBits(0) float 0
            addWord(0, 4, 0) 1
            raggednessBits(0) float 0
            addWord(0, 1, 0) 2
            raggednessBits(0) float 0.28125
            raggednessBits(1) !IndexOutOfBoundsException
            raggednessBits(-1) !IndexOutOfBoundsException
            addRow() 1
            addCell(1, 0, 1, 4) 1
            raggednessBits(1) !UnsupportedOperationException
            setMeasure(0, 8) 12
            raggednessBits(0) !IllegalStateException
            raggednessBits(1) !UnsupportedOperationException
            raggednessBits(2) !IndexOutOfBoundsException
            # the best layout, not the automatic one: 8 and not 7, so that there are lines of 6 and 4 in 8
            new
            setColumns(2) 3
            setMeasure(1, 0) 1
            run "row;cell01p=abcdef_abcd;pic11=8x20;" 3
            setMeasure(0, 12) 30
            autoWidth(0) 8
            bestWidth(0) 8
            raggednessBits(0) float 0.15625
            setColumn(1, 2, 50) 0
            autoWidth(0) 6
            bestWidth(0) 8
            raggednessBits(0) float 0.15625
            """);
    }

    private static void raggednessInFloats() {
        TableColumnBalancer x = new TableColumnBalancer();
        x.setColumns(1);
        x.addRow();
        x.addCell(0, 0, 1, 0);
        x.setMeasure(0, 9);
        int[] lengths = {6, 5, 4, 7};
        for (int length : lengths) {
            x.addWord(0, length, 1);
        }
        float sum = 0;
        for (int length : lengths) {
            float share = (7 - length) / 7f;
            sum += share * share;
        }
        Promise.due(38, "raggednessBits(0) of 6, 5, 4, 7", String.valueOf(x.raggednessBits(0)),
            String.valueOf(Float.floatToIntBits(sum / 4)));
    }

    private static void densityBits() {
        Promise.check(39, """
            densityBits() double 0/30
            setMeasure(1, 0) 1
            densityBits() !ArithmeticException
            addRow() 0
            densityBits() !ArithmeticException
            addCell(0, 0, 1, 0) 0
            densityBits() !ArithmeticException
            setMeasure(1, 1) 0
            # letters only, no spaces and no hyphens
            addWord(0, 3, 0) 1
            addWord(0, 2, 3) 2
            addWord(0, 4, 2) 3
            densityBits() double 9/90
            setMeasure(1, 0) 1
            densityBits() double 9/30
            setMeasure(1, 1) 0
            # a picture that is wide enough has its own width and height
            addCell(0, 1, 1, 4) 1
            setSize(1, 4, 3) 101
            densityBits() double 21/150
            # one that is too wide counts with the width and height that it gets
            new
            setColumns(1) 3
            setMeasure(0, 8) 30
            run "row;pic01=12x12;" 2
            autoWidth(0) 6
            densityBits() double 36/64
            # padding
            setMeasure(0, 12) 8
            setMeasure(2, 2) 0
            densityBits() double 36/144
            setMeasure(0, 11) 12
            densityBits() !IllegalStateException
            setMeasure(0, 36) 11
            densityBits() double 144/648
            # a full table
            new
            setColumns(1) 3
            setMeasure(0, 8) 30
            setMeasure(1, 0) 1
            run "row;cell01p=abcdefgh;" 2
            densityBits() double 1/1
            setKind(0, 1) 0
            densityBits() double 1/2
            setMeasure(2, 1) 0
            densityBits() !IllegalStateException
            """);
    }
}
