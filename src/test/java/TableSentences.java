/** The sentences of the description about calls in general, the table and its cells. */
final class TableSentences {
    /** Four columns and sixteen cells of kind 4 in the rows 0 to 3. */
    static final String SIXTEEN_CELLS = """
        setColumns(4) 3
        run "row;pic01=1x1;pic11=1x1;pic21=1x1;pic31=1x1;" 5
        run "row;pic01=1x1;pic11=1x1;pic21=1x1;pic31=1x1;" 5
        run "row;pic01=1x1;pic11=1x1;pic21=1x1;pic31=1x1;" 5
        run "row;pic01=1x1;pic11=1x1;pic21=1x1;pic31=1x1;" 5
        """;
    /** Cell 0 with twelve words. */
    static final String TWELVE_WORDS = """
        run "row;cell01p=a_b_c_d_e_f_g_h_i_j_k_l;" 2
        """;
    /** Nothing fits: the usable width of four columns is 8 - 2 * 5. */
    static final String NO_LAYOUT = """
        setColumns(4) 3
        setMeasure(0, 8) 30
        setMeasure(1, 2) 1
        """;
    /** A table with a text, a picture, all kinds of columns, a copy in each clip, a snapshot, a text and an error. */
    private static final String FURNISHED = """
        run "gap=2;col1=fix7;col2=pct40;row;cell01p=ab_c;pic11=9x7;row;" 7
        makeClip(0, 0, 2) 2
        copyTo(0, 1, 0) 0
        makeClip(1, 4, 1) 1
        copyTo(1, 0, 1) 4
        save() 2
        addWord(0, 3, 3) 3
        run "row;?" form 4
        append(0x726f77) 3
        """;

    private TableSentences() {
    }

    static void check() {
        calls();
        refusedChanges();
        refusedQuestions();
        refusedClips();
        refusedWithoutLayout();
        refusedAtTheBrim();
        firstOfTwoChanges();
        firstOfTwoQuestions();
        firstOfTwoLayouts();
        table();
        usableWidth();
        columns();
        cells();
        occupied();
        kinds();
    }

    private static void calls() {
        Sentence.holds("What it is", "at most 512 calls after it has been made", """
            times 509 count(0) 3
            addRow() 0
            addCell(0, 0, 1, 0) 0
            count(2) 1
            new
            setColumn(0, 1, 36) 0
            times 510 setColumn(0, 1, 36) 136
            setColumn(0, 0, 0) 136
            new
            times 511 setColumns(5) !IllegalArgumentException
            setColumns(4) 3
            """);
        Sentence.holds("General", "all divisions of ints truncate", """
            # 26 * 11 / 100 and 26 * 99 / 100
            setColumn(0, 2, 11) 0
            guess(1, 0) 2
            setColumn(0, 2, 99) 211
            guess(1, 0) 25
            # a negative one: -2 * 75 / 100
            setColumns(4) 3
            setMeasure(0, 8) 30
            setMeasure(1, 2) 1
            setColumn(0, 2, 75) 0
            guess(1, 0) 1
            """);
    }

    private static void refusedChanges() {
        Sentence.holds("General", "A method that throws an exception leaves the state unchanged", FURNISHED + """
            setColumns(5) !IllegalArgumentException
            setColumns(2) !IllegalStateException
            setMeasure(3, 0) !IndexOutOfBoundsException
            setMeasure(0, 37) !IllegalArgumentException
            setMeasure(1, 3) !IllegalArgumentException
            setMeasure(2, -1) !IllegalArgumentException
            setColumn(3, 1, 5) !IndexOutOfBoundsException
            setColumn(0, 1, 37) !IllegalArgumentException
            setColumn(0, 3, 5) !IllegalArgumentException
            addCell(3, 0, 1, 0) !IndexOutOfBoundsException
            addCell(1, 0, 1, 6) !IllegalArgumentException
            addCell(0, 2, 2, 0) !IllegalArgumentException
            addCell(0, 0, 1, 0) !IllegalStateException
            removeCell(2) !IndexOutOfBoundsException
            addWord(2, 1, 0) !IndexOutOfBoundsException
            addWord(1, 1, 0) !UnsupportedOperationException
            addWord(0, 13, 0) !IllegalArgumentException
            addWord(0, 1, 4) !IllegalArgumentException
            clearWords(2) !IndexOutOfBoundsException
            clearWords(1) !UnsupportedOperationException
            setSize(2, 5, 5) !IndexOutOfBoundsException
            setSize(0, 5, 5) !UnsupportedOperationException
            setSize(1, 21, 5) !IllegalArgumentException
            setSize(1, 5, 21) !IllegalArgumentException
            setKind(2, 0) !IndexOutOfBoundsException
            setKind(0, 6) !IllegalArgumentException
            setKind(0, 4) !UnsupportedOperationException
            setKind(1, 3) !UnsupportedOperationException
            # none of the four characters is appended
            append(0x61612061) !IllegalArgumentException
            append(0x6161617f) !IllegalArgumentException
            """);
    }

    private static void refusedQuestions() {
        Sentence.holds("General", "leaves the state unchanged", FURNISHED + """
            count(3) !IllegalArgumentException
            property(2, 0) !IndexOutOfBoundsException
            property(0, 7) !IllegalArgumentException
            cellAt(3, 0) !IndexOutOfBoundsException
            lineCount(2, 5) !IndexOutOfBoundsException
            lineCount(1, 5) !UnsupportedOperationException
            lineCount(0, 100) !IllegalArgumentException
            lineLength(2, 5, 0) !IndexOutOfBoundsException
            lineLength(1, 5, 0) !UnsupportedOperationException
            lineLength(0, 100, 0) !IllegalArgumentException
            lineLength(0, 99, 1) !NoSuchElementException
            cellHeight(2, 9) !IndexOutOfBoundsException
            cellHeight(0, 100) !IllegalArgumentException
            nextStep(2, 9) !IndexOutOfBoundsException
            nextStep(0, 100) !IllegalArgumentException
            nextStep(0, 99) !NoSuchElementException
            columnWidth(3, 0) !IndexOutOfBoundsException
            columnWidth(0, 3) !IllegalArgumentException
            guess(4, 0) !IllegalArgumentException
            guess(0, 3) !IndexOutOfBoundsException
            autoWidth(3) !IndexOutOfBoundsException
            bestWidth(3) !IndexOutOfBoundsException
            rowHeight(2, true) !IndexOutOfBoundsException
            tallest(2) !IndexOutOfBoundsException
            tallest(1) !NoSuchElementException
            heightFor(37, 9, 9, 0) !IllegalArgumentException
            heightAt(37) !IllegalArgumentException
            heightAt(8) !NoSuchElementException
            narrowest(0) !NoSuchElementException
            improvement(-1) !NoSuchElementException
            costOfWord(2, 1) !IndexOutOfBoundsException
            costOfWord(1, 1) !UnsupportedOperationException
            costOfWord(0, 13) !IllegalArgumentException
            raggednessBits(2) !IndexOutOfBoundsException
            raggednessBits(1) !UnsupportedOperationException
            """);
    }

    private static void refusedClips() {
        Sentence.holds("General", "throws an exception leaves the state unchanged", FURNISHED + """
            makeClip(2, 4, 3) !IndexOutOfBoundsException
            makeClip(0, 6, 3) !IllegalArgumentException
            makeClip(0, 4, 4) !IllegalArgumentException
            copyTo(2, 0, 0) !IndexOutOfBoundsException
            copyTo(0, 0, 2) !IndexOutOfBoundsException
            copyTo(0, 2, 0) !NoSuchElementException
            copyTo(0, 1, 1) !IllegalArgumentException
            copyTo(1, 0, 0) !IllegalArgumentException
            paste(2, 1, 1, 0) !IndexOutOfBoundsException
            paste(0, 1, 2, 0) !IndexOutOfBoundsException
            paste(0, 1, 1, 3) !IndexOutOfBoundsException
            paste(0, 0, 1, 0) !NoSuchElementException
            paste(0, 1, 0, 0) !IllegalStateException
            new
            run "row;cell01p=a;" 2
            copyTo(0, 0, 0) !IllegalStateException
            paste(0, 0, 0, 1) !NoSuchElementException
            restore() !IllegalStateException
            """);
    }

    private static void refusedWithoutLayout() {
        Sentence.holds("General", "exception leaves the state unchanged", FURNISHED + """
            setMeasure(0, 8) 30
            autoWidth(0) !IllegalStateException
            autoHeight() !IllegalStateException
            bestWidth(0) !IllegalStateException
            bestHeight() !IllegalStateException
            rowHeight(0, true) !IllegalStateException
            rowHeight(0, false) !IllegalStateException
            tallest(0) !IllegalStateException
            critical() !IllegalStateException
            costOfWord(0, 1) !IllegalStateException
            raggednessBits(0) !IllegalStateException
            densityBits() !IllegalStateException
            """);
    }

    private static void refusedAtTheBrim() {
        Sentence.holds("General", "A method that throws an exception leaves", SIXTEEN_CELLS + """
            run "row;row;" 2
            addRow() !IllegalStateException
            addCell(4, 0, 1, 0) !IllegalStateException
            makeClip(0, 4, 1) 1
            copyTo(0, 0, 0) 4
            paste(0, 0, 4, 0) !IllegalStateException
            critical() !NoSuchElementException
            new
            setMeasure(1, 0) 1
            densityBits() !ArithmeticException
            new
            """ + TWELVE_WORDS + """
            addWord(0, 1, 0) !IllegalStateException
            costOfWord(0, 1) !IllegalStateException
            append "width=30;width=30;width=30;width=30;width=30;row;row;gap=0;" 59
            append(0x6161) !IllegalStateException
            append(0x61616161) !IllegalStateException
            """);
        Sentence.holds("General", "unless its description says otherwise", """
            # execute empties the buffer and remembers the position
            append(0x726f773b) 4
            append(0x726f) 6
            execute() !IllegalArgumentException
            append(0) 0
            errorPosition() 4
            count(1) 0
            append "row;row;row;row;row;row;row;" 28
            execute() !IllegalStateException
            append(0) 0
            errorPosition() 24
            count(1) 0
            """);
    }

    private static void firstOfTwoChanges() {
        Sentence.holds("General", "the one listed first in the description of the method is thrown", SIXTEEN_CELLS + """
            setColumns(0) !IllegalArgumentException
            setMeasure(3, 99) !IndexOutOfBoundsException
            setColumn(4, 3, 0) !IndexOutOfBoundsException
            setColumn(4, 1, 0) !IndexOutOfBoundsException
            addCell(4, 0, 1, 6) !IndexOutOfBoundsException
            addCell(4, 0, 1, 0) !IndexOutOfBoundsException
            addCell(0, 4, 1, 0) !IndexOutOfBoundsException
            addCell(0, 4, 0, 0) !IndexOutOfBoundsException
            addCell(0, 0, 1, 6) !IllegalArgumentException
            addCell(0, 0, 5, 0) !IllegalArgumentException
            addCell(0, 0, 0, 0) !IllegalArgumentException
            addWord(16, 13, 4) !IndexOutOfBoundsException
            addWord(0, 13, 4) !UnsupportedOperationException
            setSize(16, 0, 0) !IndexOutOfBoundsException
            setKind(16, 6) !IndexOutOfBoundsException
            setKind(0, 6) !IllegalArgumentException
            setKind(0, -1) !IllegalArgumentException
            makeClip(0, 0, 3) 3
            makeClip(1, 4, 1) 1
            copyTo(1, 0, 0) 4
            makeClip(2, 6, 4) !IndexOutOfBoundsException
            copyTo(2, 3, 0) !IndexOutOfBoundsException
            copyTo(0, 3, 16) !IndexOutOfBoundsException
            copyTo(0, 3, 0) !NoSuchElementException
            paste(2, 0, 0, 0) !IndexOutOfBoundsException
            paste(0, 0, 4, 0) !IndexOutOfBoundsException
            paste(0, 0, 0, 4) !IndexOutOfBoundsException
            paste(1, 0, 4, 0) !IndexOutOfBoundsException
            paste(1, 0, 0, 4) !IndexOutOfBoundsException
            paste(0, 0, 0, 0) !NoSuchElementException
            paste(1, 1, 0, 0) !NoSuchElementException
            new
            """ + TWELVE_WORDS + """
            addWord(0, 13, 0) !IllegalArgumentException
            addWord(0, 1, 4) !IllegalArgumentException
            setSize(0, 0, 0) !UnsupportedOperationException
            copyTo(2, 0, 0) !IndexOutOfBoundsException
            copyTo(0, 0, 1) !IndexOutOfBoundsException
            copyTo(0, 3, 0) !IllegalStateException
            # sixty characters, and one that is not allowed
            append "width=30;width=30;width=30;width=30;width=30;width=30;gap=1;" 60
            append(0x61616120) !IllegalArgumentException
            execute() 7
            # a command that cannot be executed before a form error
            run "cell01p=a;rows;" form 10
            """);
    }

    private static void firstOfTwoQuestions() {
        Sentence.holds("General", "If several exceptions are possible", """
            run "row;cell01p=abc_de;pic11=1x1;" 3
            property(2, 7) !IndexOutOfBoundsException
            lineCount(2, 100) !IndexOutOfBoundsException
            lineCount(1, 100) !UnsupportedOperationException
            lineLength(2, 100, 9) !IndexOutOfBoundsException
            lineLength(2, 9, 9) !IndexOutOfBoundsException
            lineLength(1, 100, 9) !UnsupportedOperationException
            lineLength(1, 9, 9) !UnsupportedOperationException
            lineLength(0, 100, 9) !IllegalArgumentException
            lineLength(0, 2, 9) !IllegalArgumentException
            cellHeight(2, 100) !IndexOutOfBoundsException
            nextStep(2, 100) !IndexOutOfBoundsException
            nextStep(0, 100) !IllegalArgumentException
            nextStep(1, 0) !IllegalArgumentException
            columnWidth(3, 3) !IndexOutOfBoundsException
            guess(4, 3) !IllegalArgumentException
            guess(-1, -2) !IllegalArgumentException
            """);
    }

    private static void firstOfTwoLayouts() {
        Sentence.holds("General", "the one listed first", NO_LAYOUT + """
            autoWidth(4) !IndexOutOfBoundsException
            bestWidth(4) !IndexOutOfBoundsException
            rowHeight(0, true) !IndexOutOfBoundsException
            rowHeight(0, false) !IndexOutOfBoundsException
            tallest(0) !IndexOutOfBoundsException
            critical() !IllegalStateException
            setColumn(0, 1, 36) 0
            heightAt(37) !IllegalArgumentException
            heightAt(7) !IllegalArgumentException
            addRow() 0
            tallest(0) !IllegalStateException
            addCell(0, 0, 1, 4) 0
            costOfWord(1, 13) !IndexOutOfBoundsException
            costOfWord(1, 1) !IndexOutOfBoundsException
            costOfWord(0, 13) !UnsupportedOperationException
            costOfWord(0, 1) !UnsupportedOperationException
            raggednessBits(1) !IndexOutOfBoundsException
            raggednessBits(0) !UnsupportedOperationException
            addCell(0, 1, 1, 0) 1
            costOfWord(1, 13) !IllegalArgumentException
            new
            """ + TWELVE_WORDS + """
            costOfWord(0, 13) !IllegalArgumentException
            """);
    }

    private static void table() {
        Sentence.holds("Table", "The table has 1 to 4 columns", """
            setColumns(1) 3
            count(0) 1
            setColumns(<1..4>) !IllegalArgumentException
            setColumns(4) 1
            count(0) 4
            """);
        Sentence.holds("Table", "columns, 3 at first", """
            count(0) 3
            setColumns(3) 3
            """);
        Sentence.holds("Table", "numbered from 0, and at most", """
            setColumns(4) 3
            columnWidth(0, 0) 1
            columnWidth(3, 0) 1
            columnWidth(<0..3>, 0) !IndexOutOfBoundsException
            setColumns(1) 4
            columnWidth(0, 0) 1
            columnWidth(<0..0>, 0) !IndexOutOfBoundsException
            """);
        Sentence.holds("Table", "at most 6 rows", """
            run "row;row;row;row;row;" 5
            addRow() 5
            count(1) 6
            addRow() !IllegalStateException
            run "row;" execution 0
            """);
        Sentence.holds("Table", "6 rows, none at first", """
            count(1) 0
            cellAt(0, 0) !IndexOutOfBoundsException
            """);
        Sentence.holds("Table", "numbered from 0 in the order in which they are added", """
            addRow() 0
            addRow() 1
            addCell(1, 0, 1, 4) 0
            addRow() 2
            rowHeight(0, true) 0
            rowHeight(1, true) 1
            rowHeight(2, true) 0
            rowHeight(<0..2>, true) !IndexOutOfBoundsException
            """);
        Sentence.holds("Table", "a table width from 8 to 36", """
            setMeasure(0, 8) 30
            setMeasure(0, 36) 8
            setMeasure(0, <8..36>) !IllegalArgumentException
            setMeasure(0, 36) 36
            """);
        Sentence.holds("Table", "30 at first", """
            setMeasure(0, 30) 30
            """);
        Sentence.holds("Table", "a gap from 0 to 2, 1 at first", """
            setMeasure(1, 0) 1
            setMeasure(1, 2) 0
            setMeasure(1, <0..2>) !IllegalArgumentException
            setMeasure(1, 0) 2
            """);
        Sentence.holds("Table", "a padding from 0 to 2, 0 at first", """
            setMeasure(2, 2) 0
            setMeasure(2, <0..2>) !IllegalArgumentException
            setMeasure(2, 0) 2
            """);
    }

    private static void usableWidth() {
        Sentence.holds("Table", "The usable width is the table width minus gap * (columns + 1)", """
            # one column that takes all of it
            setColumns(1) 3
            setColumn(0, 2, 100) 0
            guess(1, 0) 28
            setMeasure(1, 2) 1
            guess(1, 0) 26
            setMeasure(1, 0) 2
            guess(1, 0) 30
            setMeasure(0, 36) 30
            guess(1, 0) 36
            setMeasure(0, 8) 36
            guess(1, 0) 8
            setColumns(4) 1
            setColumn(0, 2, 100) 0
            setMeasure(0, 36) 8
            setMeasure(1, 2) 0
            guess(1, 0) 26
            """);
        Sentence.holds("Table", "it may be negative", NO_LAYOUT + """
            setColumn(0, 2, 100) 0
            setColumn(1, 1, 1) 0
            guess(1, 0) 1
            guess(1, -1) 4
            guess(2, -1) 4
            guess(3, -1) 4
            autoWidth(0) !IllegalStateException
            autoHeight() !IllegalStateException
            bestWidth(0) !IllegalStateException
            bestHeight() !IllegalStateException
            densityBits() !IllegalStateException
            heightAt(8) !NoSuchElementException
            heightAt(9) !NoSuchElementException
            # 0, and the first at which four columns fit
            heightAt(10) !NoSuchElementException
            heightAt(13) !NoSuchElementException
            heightAt(14) 2
            narrowest(2) 14
            setMeasure(0, 10) 8
            guess(1, 0) 1
            autoHeight() !IllegalStateException
            bestHeight() !IllegalStateException
            """);
    }

    private static void columns() {
        Sentence.holds("Table", "A column is automatic, as all are at first", """
            setColumn(0, 0, 0) 0
            setColumn(1, 0, 0) 0
            setColumn(2, 0, 0) 0
            new
            setColumns(4) 3
            setColumn(3, 0, 0) 0
            """);
        Sentence.holds("Table", "or fixed with a width from 1 to 36", """
            setColumn(0, 1, 1) 0
            setColumn(0, 1, 36) 101
            guess(2, 0) 36
            setColumn(0, 1, <1..36>) !IllegalArgumentException
            setColumn(0, 1, 1) 136
            guess(2, 0) 1
            """);
        Sentence.holds("Table", "or proportional with a percentage from 1 to 100", """
            setColumn(0, 2, 1) 0
            setColumn(0, 2, 100) 201
            columnWidth(0, 2) 100
            setColumn(0, 2, <1..100>) !IllegalArgumentException
            setColumn(0, 2, 1) 300
            columnWidth(0, 2) 1
            """);
    }

    private static void cells() {
        Sentence.holds("Cells", "There are at most 16 cells", SIXTEEN_CELLS + """
            count(2) 16
            addRow() 4
            addCell(4, 0, 1, 0) !IllegalStateException
            run "cell01p=a;" execution 0
            makeClip(0, 4, 1) 1
            copyTo(0, 0, 15) 4
            paste(0, 0, 4, 0) !IllegalStateException
            removeCell(15) 15
            paste(0, 0, 4, 0) 15
            removeCell(0) 15
            addCell(4, 1, 3, 3) 15
            """);
        Sentence.holds("Cells", "numbered from 0 in the order in which they are added", """
            run "row;row;pic01=2x1;" 3
            addCell(0, 2, 1, 0) 1
            addCell(1, 1, 2, 5) 2
            addCell(0, 0, 1, 3) 3
            cellAt(1, 0) 0
            cellAt(0, 2) 1
            cellAt(1, 2) 2
            cellAt(0, 0) 3
            property(<0..3>, 0) !IndexOutOfBoundsException
            """);
        Sentence.holds("Cells", "when a cell is removed, the numbers of the later ones decrease by 1", SIXTEEN_CELLS + """
            removeCell(<0..15>) !IndexOutOfBoundsException
            # the last, one between and the first
            removeCell(15) 15
            cellAt(3, 3) -1
            cellAt(3, 2) 14
            removeCell(7) 14
            cellAt(1, 2) 6
            cellAt(1, 3) -1
            cellAt(2, 0) 7
            cellAt(3, 2) 13
            removeCell(0) 13
            cellAt(0, 0) -1
            cellAt(0, 1) 0
            cellAt(2, 0) 6
            cellAt(3, 2) 12
            property(<0..12>, 0) !IndexOutOfBoundsException
            """);
        Sentence.holds("Cells", "has a span, which is the number of columns that it occupies", """
            setColumns(4) 3
            addRow() 0
            addRow() 1
            addCell(0, 0, 4, 0) 0
            cellAt(0, 0) 0
            cellAt(0, 3) 0
            addCell(1, 1, 2, 0) 1
            cellAt(1, 0) -1
            cellAt(1, 1) 1
            cellAt(1, 2) 1
            cellAt(1, 3) -1
            """);
    }

    private static void occupied() {
        Sentence.holds("Cells", "no column of a row is occupied twice", """
            setColumns(4) 3
            run "row;row;pic12=1x1;" 3
            addCell(1, 1, 1, 0) !IllegalStateException
            addCell(1, 2, 1, 0) !IllegalStateException
            addCell(1, 1, 2, 0) !IllegalStateException
            addCell(1, 0, 2, 0) !IllegalStateException
            addCell(1, 2, 2, 0) !IllegalStateException
            addCell(1, 0, 4, 0) !IllegalStateException
            run "pic21=1x1;" execution 0
            run "cell02p=a;" execution 0
            makeClip(0, 4, 1) 1
            copyTo(0, 0, 0) 4
            paste(0, 0, 1, 2) !IllegalStateException
            # beside it and above it
            addCell(1, 0, 1, 0) 1
            addCell(1, 3, 1, 0) 2
            addCell(0, 0, 4, 0) 3
            """);
    }

    private static void kinds() {
        Sentence.holds("Cells", "The kinds of cells are 0 paragraph, 1 heading, 2 quote, 3 code, 4 picture and 5 icon", """
            setColumns(4) 3
            run "row;row;" 2
            addCell(0, 0, 1, 0) 0
            addCell(0, 1, 1, 1) 1
            addCell(0, 2, 1, 2) 2
            addCell(0, 3, 1, 3) 3
            addCell(1, 0, 1, 4) 4
            addCell(1, 1, 1, 5) 5
            property(0, 3) 0
            property(1, 3) 1
            property(2, 3) 2
            property(3, 3) 3
            property(4, 3) 4
            property(5, 3) 5
            addCell(1, 2, 1, <0..5>) !IllegalArgumentException
            """);
        Sentence.holds("Cells", "The kinds 1, 2 and 3 are subkinds of kind 0, and kind 5 is a subkind of kind 4",
            ClipSentences.CELLS_OF_ALL_KINDS + """
            makeClip(0, 0, 1) 1
            copyTo(0, 0, 0) 0
            copyTo(0, 0, 1) 1
            copyTo(0, 0, 2) 2
            copyTo(0, 0, 3) 3
            copyTo(0, 0, 4) !IllegalArgumentException
            copyTo(0, 0, 5) !IllegalArgumentException
            makeClip(0, 4, 1) 1
            copyTo(0, 0, 4) 4
            copyTo(0, 0, 5) 5
            copyTo(0, 0, 0) !IllegalArgumentException
            copyTo(0, 0, 3) !IllegalArgumentException
            """);
        Sentence.holds("Cells", "The kinds 0 to 3 are the text kinds", ClipSentences.CELLS_OF_ALL_KINDS + """
            addWord(0, 1, 0) 1
            addWord(1, 1, 0) 1
            addWord(2, 1, 0) 1
            addWord(3, 1, 0) 1
            addWord(4, 1, 0) !UnsupportedOperationException
            addWord(5, 1, 0) !UnsupportedOperationException
            setSize(3, 1, 1) !UnsupportedOperationException
            setSize(4, 1, 1) 101
            """);
    }
}
