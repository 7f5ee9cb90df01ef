/** Promises 15 to 21: cells, their lines and heights. */
public final class CellsTest {
    /** Cell 0 has the pieces 3, 4 with a hyphen, 5 with a line end, 2 and 6 joined to 9, and 1. */
    private static final String WORDS = """
        addRow() 0
        addCell(0, 0, 1, 0) 0
        addCell(0, 1, 1, 4) 1
        setSize(1, 7, 5) 101
        addWord(0, 3, 0) 1
        addWord(0, 4, 3) 2
        addWord(0, 5, 1) 3
        addWord(0, 2, 2) 4
        addWord(0, 6, 0) 5
        addWord(0, 1, 3) 6
        """;

    private CellsTest() {
    }

    public static void main(String[] args) {
        count();
        property();
        cellAt();
        lineCount();
        lineLength();
        cellHeight();
        nextStep();
        Promise.end();
    }

    private static void count() {
        Promise.check(15, """
            run "row;row;cell01p=a;cell12p=a;pic01=1x1;" execution 28
            count(0) 3
            count(1) 0
            run "row;row;cell01p=a;pic12=1x1;row;" 5
            count(0) 3
            count(1) 3
            count(2) 2
            count(3) !IllegalArgumentException
            count(-1) !IllegalArgumentException
            """);
    }

    private static void property() {
        Promise.check(16, WORDS + """
            property(0, 0) 0
            property(0, 1) 0
            property(0, 2) 1
            property(0, 3) 0
            property(0, 4) 6
            property(0, 5) 9
            property(0, 6) 13
            property(1, 1) 1
            property(1, 3) 4
            property(1, 4) 0
            property(1, 5) 4
            property(1, 6) 7
            property(0, 7) !IllegalArgumentException
            property(0, -1) !IllegalArgumentException
            property(2, 0) !IndexOutOfBoundsException
            property(-1, 9) !IndexOutOfBoundsException
            # the padding counts on both sides, the indent once
            setMeasure(2, 2) 0
            property(0, 5) 13
            property(1, 6) 11
            setKind(0, 2) 0
            property(0, 5) 15
            property(0, 6) 19
            # in code only line ends part the pieces: 3 4-5 and 2 6 1
            setKind(0, 3) 2
            property(0, 5) 17
            property(0, 6) 17
            setMeasure(2, 0) 2
            setKind(1, 5) 4
            property(1, 5) 7
            # a last piece has no hyphen, one before the last has
            new
            addRow() 0
            addCell(0, 0, 3, 0) 0
            property(0, 5) 0
            property(0, 6) 0
            addWord(0, 7, 3) 1
            property(0, 5) 7
            addWord(0, 1, 3) 2
            property(0, 5) 8
            property(0, 6) 8
            setKind(0, 2) 0
            property(0, 5) 10
            clearWords(0) 2
            property(0, 5) 2
            property(0, 6) 2
            property(0, 2) 3
            """);
    }

    private static void cellAt() {
        Promise.check(17, """
            cellAt(0, 0) !IndexOutOfBoundsException
            run "row;row;pic12=1x1;pic01=1x1;row;cell03p=a;" 6
            cellAt(0, 0) -1
            cellAt(1, 0) 1
            cellAt(1, 1) 0
            cellAt(1, 2) 0
            cellAt(2, 0) 2
            cellAt(2, 2) 2
            cellAt(3, 0) !IndexOutOfBoundsException
            cellAt(-1, 0) !IndexOutOfBoundsException
            cellAt(0, 3) !IndexOutOfBoundsException
            cellAt(0, -1) !IndexOutOfBoundsException
            removeCell(0) 2
            cellAt(1, 1) -1
            cellAt(1, 0) 0
            cellAt(2, 1) 1
            """);
    }

    private static void lineCount() {
        Promise.check(18, WORDS + """
            lineCount(0, 9) 4
            lineCount(0, 10) 4
            lineCount(0, 11) 3
            lineCount(0, 12) 3
            lineCount(0, 13) 2
            lineCount(0, 99) 2
            lineCount(0, 100) !IllegalArgumentException
            lineCount(0, 8) !IllegalArgumentException
            lineCount(0, -1) !IllegalArgumentException
            lineCount(1, 9) !UnsupportedOperationException
            lineCount(1, 100) !UnsupportedOperationException
            lineCount(2, 100) !IndexOutOfBoundsException
            lineCount(-1, 9) !IndexOutOfBoundsException
            # the content width knows no padding; a heading has as many lines as a paragraph
            setMeasure(2, 2) 0
            setKind(0, 1) 0
            lineCount(0, 9) 4
            setKind(0, 2) 1
            lineCount(0, 10) !IllegalArgumentException
            lineCount(0, 11) 4
            lineCount(0, 15) 2
            setKind(0, 3) 2
            lineCount(0, 12) !IllegalArgumentException
            lineCount(0, 13) 2
            # without words
            clearWords(0) 6
            lineCount(0, 0) 0
            lineCount(0, 99) 0
            lineCount(0, -1) !IllegalArgumentException
            setKind(0, 2) 3
            lineCount(0, 1) !IllegalArgumentException
            lineCount(0, 2) 0
            # a piece as wide as the greatest width, 7 * 12 + 8 + 7, and one that is wider
            new
            addRow() 0
            addCell(0, 0, 1, 0) 0
            addWord(0, 12, 2) 1
            addWord(0, 12, 2) 2
            addWord(0, 12, 2) 3
            addWord(0, 12, 2) 4
            addWord(0, 12, 2) 5
            addWord(0, 12, 2) 6
            addWord(0, 12, 2) 7
            addWord(0, 8, 0) 8
            lineCount(0, 98) !IllegalArgumentException
            lineCount(0, 99) 1
            cellHeight(0, 99) 1
            addWord(0, 9, 3) 9
            lineCount(0, 99) 2
            addWord(0, 1, 0) 10
            lineCount(0, 99) 2
            setKind(0, 2) 0
            lineCount(0, 99) !IllegalArgumentException
            lineCount(0, 101) !IllegalArgumentException
            lineLength(0, 99, 0) !IllegalArgumentException
            cellHeight(0, 99) !IllegalArgumentException
            nextStep(0, 99) !IllegalArgumentException
            """);
    }

    private static void lineLength() {
        Promise.check(19, WORDS + """
            lineLength(0, 9, 0) 9
            lineLength(0, 9, 1) 5
            lineLength(0, 9, 2) 9
            lineLength(0, 9, 3) 1
            lineLength(0, 9, 4) !NoSuchElementException
            lineLength(0, 9, -1) !NoSuchElementException
            lineLength(0, 11, 2) 11
            lineLength(0, 13, 0) 13
            lineLength(0, 13, 1) 11
            lineLength(0, 13, 2) !NoSuchElementException
            lineLength(0, 99, 0) 13
            lineLength(0, 100, 0) !IllegalArgumentException
            lineLength(0, 8, 9) !IllegalArgumentException
            lineLength(1, 8, 9) !UnsupportedOperationException
            lineLength(2, 8, 9) !IndexOutOfBoundsException
            # without the indent
            setKind(0, 2) 0
            lineLength(0, 11, 0) 9
            setKind(0, 3) 2
            lineLength(0, 13, 0) 13
            lineLength(0, 13, 1) 11
            clearWords(0) 6
            lineLength(0, 0, 0) !NoSuchElementException
            # a line that ends with a hyphen is no longer than one with a letter more
            new
            run "row;cell01p=abc-d-ef;" 2
            lineCount(0, 4) 2
            lineLength(0, 4, 0) 4
            lineLength(0, 4, 1) 3
            lineCount(0, 5) 2
            lineLength(0, 5, 0) 5
            lineLength(0, 5, 1) 2
            lineLength(0, 6, 0) 6
            """);
    }

    private static void cellHeight() {
        Promise.check(20, WORDS + """
            cellHeight(0, 9) 4
            cellHeight(0, 11) 3
            cellHeight(0, 99) 2
            cellHeight(0, 8) !IllegalArgumentException
            cellHeight(0, 100) !IllegalArgumentException
            cellHeight(2, 100) !IndexOutOfBoundsException
            cellHeight(-1, 9) !IndexOutOfBoundsException
            setKind(0, 1) 0
            cellHeight(0, 9) 8
            setMeasure(2, 2) 0
            cellHeight(0, 12) !IllegalArgumentException
            cellHeight(0, 13) 12
            cellHeight(0, 15) 10
            cellHeight(0, 17) 8
            setMeasure(2, 0) 2
            # 4 / 7 * 5 and so on, rounded down
            cellHeight(1, 3) !IllegalArgumentException
            cellHeight(1, 4) 2
            cellHeight(1, 5) 3
            cellHeight(1, 6) 4
            cellHeight(1, 7) 5
            cellHeight(1, 99) 5
            setMeasure(2, 1) 0
            cellHeight(1, 5) !IllegalArgumentException
            cellHeight(1, 6) 4
            cellHeight(1, 9) 7
            setMeasure(2, 0) 1
            setKind(1, 5) 4
            cellHeight(1, 6) !IllegalArgumentException
            cellHeight(1, 7) 5
            # at least 1
            setKind(1, 4) 5
            setSize(1, 20, 1) 705
            cellHeight(1, 10) 1
            cellHeight(1, 19) 1
            cellHeight(1, 20) 1
            clearWords(0) 6
            cellHeight(0, 0) 0
            setMeasure(2, 2) 0
            cellHeight(0, 4) 4
            """);
    }

    private static void nextStep() {
        Promise.check(21, WORDS + """
            nextStep(0, 9) 11
            nextStep(0, 10) 11
            nextStep(0, 11) 13
            nextStep(0, 12) 13
            nextStep(0, 13) !NoSuchElementException
            nextStep(0, 99) !NoSuchElementException
            nextStep(0, 100) !IllegalArgumentException
            nextStep(0, 8) !IllegalArgumentException
            nextStep(2, 8) !IndexOutOfBoundsException
            setMeasure(2, 1) 0
            nextStep(0, 10) !IllegalArgumentException
            nextStep(0, 11) 13
            # a picture only grows
            nextStep(1, 6) !NoSuchElementException
            nextStep(1, 5) !IllegalArgumentException
            # steps up to the greatest width: 49 + 1 + 49 = 99, and one more is too much
            new
            addRow() 0
            addCell(0, 0, 1, 0) 0
            addWord(0, 12, 2) 1
            addWord(0, 12, 2) 2
            addWord(0, 12, 2) 3
            addWord(0, 10, 0) 4
            addWord(0, 12, 2) 5
            addWord(0, 12, 2) 6
            addWord(0, 12, 2) 7
            addWord(0, 10, 0) 8
            property(0, 5) 49
            property(0, 6) 99
            nextStep(0, 49) 99
            nextStep(0, 98) 99
            nextStep(0, 99) !NoSuchElementException
            setMeasure(2, 1) 0
            nextStep(0, 51) !NoSuchElementException
            setMeasure(2, 0) 1
            # 49, 49 and 1: at 99 there are as many lines as at 51
            addWord(0, 1, 0) 9
            nextStep(0, 49) 51
            nextStep(0, 50) 51
            nextStep(0, 51) !NoSuchElementException
            """);
    }
}
