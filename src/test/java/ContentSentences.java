/** The sentences of the description about words, lines and pictures, and the sizes of cells. */
final class ContentSentences {
    private ContentSentences() {
    }

    static void check() {
        words();
        lastBreak();
        pieces();
        lines();
        greedyLines();
        contentWidths();
        contentHeight();
        pictureSize();
        pictureHeight();
        cellSizes();
        heights();
    }

    private static void words() {
        Sentence.holds("Text content", "A cell of a text kind has at most 12 words", """
            run "row;cell01p=a_b_c_d_e_f_g_h_i_j_k;cell11c=a;" 3
            addWord(0, 1, 0) 12
            addWord(0, 1, 0) !IllegalStateException
            costOfWord(0, 1) !IllegalStateException
            property(0, 4) 12
            # other cells and the same cell when it is empty again
            addWord(1, 1, 0) 2
            clearWords(0) 12
            times 1 addWord(0, 1, 0) 1
            """);
        Sentence.holds("Text content", "none at first", ClipSentences.CELLS_OF_ALL_KINDS + """
            property(0, 4) 0
            property(1, 4) 0
            property(2, 4) 0
            property(3, 4) 0
            lineCount(0, 99) 0
            clearWords(3) 0
            """);
        Sentence.holds("Text content", "A word has a length from 1 to 12", """
            addRow() 0
            addCell(0, 0, 1, 0) 0
            addWord(0, <1..12>, 0) !IllegalArgumentException
            addWord(0, 1, 0) 1
            property(0, 5) 1
            addWord(0, 12, 0) 2
            property(0, 5) 12
            costOfWord(0, <1..12>) !IllegalArgumentException
            """);
        Sentence.holds("Text content", "0 space, 1 line end, 2 fixed space, 3 soft hyphen", """
            addRow() 0
            addCell(0, 0, 1, 0) 0
            addWord(0, 3, <0..3>) !IllegalArgumentException
            addWord(0, 3, 0) 1
            addWord(0, 2, 0) 2
            property(0, 5) 3
            property(0, 6) 6
            clearWords(0) 2
            addWord(0, 3, 1) 1
            addWord(0, 2, 0) 2
            property(0, 5) 3
            property(0, 6) 3
            clearWords(0) 2
            addWord(0, 3, 2) 1
            addWord(0, 2, 0) 2
            property(0, 5) 6
            property(0, 6) 6
            clearWords(0) 2
            addWord(0, 3, 3) 1
            addWord(0, 2, 0) 2
            property(0, 5) 4
            property(0, 6) 5
            """);
    }

    private static void lastBreak() {
        for (int kind = 0; kind < 4; kind++) {
            for (int after = 0; after < 4; after++) {
                int indent = kind == 2 ? 2 : 0;
                int lines = kind == 1 ? 2 : 1;
                Sentence.holds("Text content", "The break after the last word has no effect", """
                    addRow() 0
                    addCell(0, 0, 1, %1$d) 0
                    addWord(0, 3, %2$d) 1
                    property(0, 5) %3$d
                    property(0, 6) %3$d
                    lineCount(0, 99) 1
                    lineLength(0, %3$d, 0) 3
                    cellHeight(0, %3$d) %4$d
                    # nor after a piece that is joined
                    clearWords(0) 1
                    addWord(0, 1, 2) 1
                    addWord(0, 1, %2$d) 2
                    property(0, 5) %3$d
                    property(0, 6) %3$d
                    lineLength(0, %3$d, 0) 3
                    lineCount(0, 99) 1
                    """.formatted(kind, after, indent + 3, lines));
            }
        }
    }

    private static void pieces() {
        Sentence.holds("Text content", "words of the cell between which there are only fixed spaces", """
            # eleven fixed spaces: 12 * 12 + 11
            addRow() 0
            addCell(0, 0, 1, 0) 0
            addWord(0, 12, 2) 1
            addWord(0, 12, 2) 2
            addWord(0, 12, 2) 3
            addWord(0, 12, 2) 4
            addWord(0, 12, 2) 5
            addWord(0, 12, 2) 6
            addWord(0, 12, 2) 7
            addWord(0, 12, 2) 8
            addWord(0, 12, 2) 9
            addWord(0, 12, 2) 10
            addWord(0, 12, 2) 11
            addWord(0, 12, 2) 12
            property(0, 5) 155
            property(0, 6) 155
            columnWidth(0, 0) 155
            lineCount(0, 99) !IllegalArgumentException
            # maximal: the joined words end where another break is
            new
            run "row;cell01p=ab~c_d~e~f-g~h/i~j;" 2
            property(0, 5) 6
            lineCount(0, 6) 4
            lineLength(0, 6, 0) 4
            lineLength(0, 6, 1) 6
            lineLength(0, 6, 2) 3
            lineLength(0, 6, 3) 3
            """);
        Sentence.holds("Text content", "in a cell of kind 3, there may also be spaces and soft hyphens", """
            run "row;cell01c=ab_c-d~e/f;" 2
            property(0, 5) 7
            property(0, 6) 7
            lineCount(0, 6) !IllegalArgumentException
            lineCount(0, 7) 2
            lineLength(0, 99, 0) 7
            lineLength(0, 99, 1) 1
            # in the other ones there may not
            setKind(0, 0) 3
            property(0, 5) 3
            setKind(0, 1) 0
            property(0, 5) 3
            setKind(0, 2) 1
            property(0, 5) 5
            """);
        Sentence.holds("Text content", "The length of a piece is the sum of the lengths of its words plus 1", """
            # one word, the least and the greatest
            run "row;cell01c=a;cell11c=abcdefghijkl;cell21p=abcdefghijkl;" 4
            property(0, 5) 1
            property(1, 5) 12
            property(2, 5) 12
            # 2 + 1 + 2 + 2 + 1 + 1: nothing for the hyphen
            new
            run "row;cell01c=ab_cd-ef~g;" 2
            property(0, 5) 9
            lineLength(0, 9, 0) 9
            """);
    }

    private static void lines() {
        Sentence.holds("Text content", "consecutive pieces without a line end between them", """
            run "row;cell01p=a/b/c/d/e/f/g/h/i/j/k/l;cell11p=a_b/c;" 3
            lineCount(0, 99) 12
            lineCount(0, 1) 12
            lineLength(0, 99, 11) 1
            lineCount(1, 99) 2
            lineLength(1, 99, 0) 3
            setKind(0, 1) 0
            cellHeight(0, 99) 24
            """);
        Sentence.holds("Text content", "plus 1 for each space between them", """
            run "row;cell01p=a_b_c_d_e_f_g_h_i_j_k_l;" 2
            lineLength(0, 23, 0) 23
            lineLength(0, 22, 0) 21
            # a soft hyphen within a line takes no room
            run "cell11p=a-b-c-d;" 1
            lineLength(1, 4, 0) 4
            """);
        Sentence.holds("Text content", "plus 1 if the break after its last piece is a soft hyphen", """
            run "row;cell01p=abc-de;" 2
            lineCount(0, 5) 1
            lineLength(0, 5, 0) 5
            lineCount(0, 4) 2
            lineLength(0, 4, 0) 4
            lineLength(0, 4, 1) 2
            lineCount(0, 3) !IllegalArgumentException
            """);
        Sentence.holds("Text content", "and this is not the last piece of the cell", """
            addRow() 0
            addCell(0, 0, 1, 0) 0
            addWord(0, 3, 3) 1
            property(0, 5) 3
            lineLength(0, 3, 0) 3
            addWord(0, 4, 3) 2
            property(0, 5) 4
            property(0, 6) 7
            lineLength(0, 7, 0) 7
            lineLength(0, 6, 1) 4
            """);
        Sentence.holds("Text content", "The indent of a cell is 2 for kind 2 and 0 for the other text kinds", """
            setColumns(4) 3
            run "row;cell01p=abc;cell11h=abc;cell21q=abc;cell31c=abc;" 5
            lineCount(0, 3) 1
            lineCount(1, 3) 1
            lineCount(2, 3) !IllegalArgumentException
            lineCount(2, 4) !IllegalArgumentException
            lineCount(2, 5) 1
            lineCount(3, 3) 1
            """);
    }

    private static void greedyLines() {
        Sentence.holds("Text content", "each line is the one with the most pieces", """
            run "row;cell01p=ab_cd_ef;" 2
            # 8 and 5 are needed for three and for two pieces
            lineCount(0, 8) 1
            lineCount(0, 7) 2
            lineLength(0, 7, 0) 5
            lineLength(0, 7, 1) 2
            lineCount(0, 5) 2
            lineCount(0, 4) 3
            lineCount(0, 2) 3
            lineCount(0, 1) !IllegalArgumentException
            # also where one piece more only takes the place of a hyphen
            new
            run "row;cell01p=abc-d_ef;" 2
            lineCount(0, 4) 2
            lineLength(0, 4, 0) 4
            lineLength(0, 4, 1) 2
            """);
        Sentence.holds("Text content", "begin with the first piece behind the previous line", """
            run "row;cell01p=abcd_e_fgh_ij;" 2
            lineCount(0, 5) 3
            lineLength(0, 5, 0) 4
            lineLength(0, 5, 1) 5
            lineLength(0, 5, 2) 2
            """);
        Sentence.holds("Text content", "whose length is at most w minus the indent", """
            run "row;cell01q=ab_cd;" 2
            lineCount(0, 7) 1
            lineCount(0, 6) 2
            lineLength(0, 7, 0) 5
            lineLength(0, 4, 1) 2
            """);
    }

    private static void contentWidths() {
        Sentence.holds("Text content", "The minimum content width is the indent plus the greatest length", """
            setColumns(4) 3
            # the hyphen counts, but not behind the last piece; first, between and last
            run "row;cell01p=abc-d_e;cell11p=a-bcd;cell21q=a_bcd_e;" 4
            property(0, 5) 4
            property(1, 5) 3
            property(2, 5) 5
            lineCount(0, 3) !IllegalArgumentException
            lineCount(0, 4) 2
            """);
        Sentence.holds("Text content", "that cannot be extended, because before it and behind it", """
            setColumns(4) 3
            run "row;cell01p=ab_cd/efg/h;cell11p=a/bc_de/f;" 3
            run "cell21q=a/b/cd_ef;cell31p=ab-c_d;" 2
            property(0, 6) 5
            property(1, 6) 5
            property(2, 6) 7
            property(3, 6) 5
            # never less than the minimum: the hyphen gives way to a letter
            new
            run "row;cell01p=ab-c;" 2
            property(0, 5) 3
            property(0, 6) 3
            """);
        Sentence.holds("Text content", "Both are the indent if there are no words", ClipSentences.CELLS_OF_ALL_KINDS + """
            property(0, 5) 0
            property(0, 6) 0
            property(1, 5) 0
            property(1, 6) 0
            property(2, 5) 2
            property(2, 6) 2
            property(3, 5) 0
            property(3, 6) 0
            lineCount(0, 0) 0
            lineCount(2, 1) !IllegalArgumentException
            lineCount(2, 2) 0
            addWord(2, 5, 0) 1
            clearWords(2) 1
            property(2, 5) 2
            setMeasure(2, 2) 0
            property(0, 5) 4
            property(2, 6) 6
            """);
    }

    private static void contentHeight() {
        Sentence.holds("Text content", "The content height for the content width w is the number of lines, twice", """
            setColumns(4) 3
            run "row;cell01p=a/b/c;cell11h=a/b/c;cell21q=a/b/c;cell31c=a/b/c;" 5
            cellHeight(0, 9) 3
            cellHeight(1, 9) 6
            cellHeight(2, 9) 3
            cellHeight(3, 9) 3
            lineCount(1, 9) 3
            clearWords(0) 3
            clearWords(1) 3
            cellHeight(0, 0) 0
            cellHeight(1, 0) 0
            """);
    }

    private static void pictureSize() {
        Sentence.holds("Picture content", "a width and a height from 1 to 20", """
            addRow() 0
            addCell(0, 0, 1, 4) 0
            addCell(0, 1, 1, 5) 1
            setSize(0, 1, 20) 101
            setSize(0, 20, 1) 120
            setSize(0, <1..20>, 1) !IllegalArgumentException
            setSize(0, 1, <1..20>) !IllegalArgumentException
            setSize(0, 20, 20) 2001
            setSize(1, <1..20>, 20) !IllegalArgumentException
            setSize(1, 20, <1..20>) !IllegalArgumentException
            setSize(1, 20, 20) 101
            setSize(1, 1, 1) 2020
            """);
        Sentence.holds("Picture content", "both 1 at first", """
            addRow() 0
            addCell(0, 0, 1, 4) 0
            addCell(0, 1, 1, 5) 1
            property(0, 6) 1
            cellHeight(0, 1) 1
            setSize(0, 1, 1) 101
            setSize(1, 1, 1) 101
            """);
        Sentence.holds("Picture content", "The maximum content width is its width", """
            addRow() 0
            addCell(0, 0, 1, 4) 0
            addCell(0, 1, 1, 5) 1
            setSize(0, 20, 1) 101
            setSize(1, 20, 1) 101
            property(0, 6) 20
            property(1, 6) 20
            setSize(0, 19, 1) 2001
            property(0, 6) 19
            """);
        Sentence.holds("Picture content", "half the width, rounded up", """
            addRow() 0
            addCell(0, 0, 1, 4) 0
            property(0, 5) 1
            setSize(0, 2, 1) 101
            property(0, 5) 1
            setSize(0, 3, 1) 201
            property(0, 5) 2
            setSize(0, 4, 1) 301
            property(0, 5) 2
            setSize(0, 19, 1) 401
            property(0, 5) 10
            setSize(0, 20, 1) 1901
            property(0, 5) 10
            cellHeight(0, 9) !IllegalArgumentException
            """);
        Sentence.holds("Picture content", "For kind 5, the minimum content width is its width", """
            addRow() 0
            addCell(0, 0, 1, 5) 0
            setSize(0, 20, 13) 101
            property(0, 5) 20
            cellHeight(0, 19) !IllegalArgumentException
            cellHeight(0, 20) 13
            cellHeight(0, 99) 13
            setSize(0, 1, 20) 2013
            property(0, 5) 1
            cellHeight(0, 1) 20
            """);
    }

    private static void pictureHeight() {
        Sentence.holds("Picture content", "a content width w of at least its width is its height", """
            addRow() 0
            addCell(0, 0, 1, 4) 0
            setSize(0, 6, 20) 101
            cellHeight(0, 6) 20
            cellHeight(0, 7) 20
            cellHeight(0, 99) 20
            cellHeight(0, 5) 16
            """);
        Sentence.holds("Picture content", "the int to which the float (float) w / width * height", """
            addRow() 0
            addCell(0, 0, 1, 4) 0
            # rounded down, also just below the next int
            setSize(0, 6, 20) 101
            cellHeight(0, 3) 10
            cellHeight(0, 4) 13
            cellHeight(0, 5) 16
            setSize(0, 20, 19) 620
            cellHeight(0, 19) 18
            # an int exactly: 2 / 3 * 3, 5 / 7 * 7, 19 / 20 * 20
            setSize(0, 3, 3) 2019
            cellHeight(0, 2) 2
            setSize(0, 7, 7) 303
            cellHeight(0, 5) 5
            setSize(0, 20, 20) 707
            cellHeight(0, 19) 19
            cellHeight(0, 10) 10
            """);
        Sentence.holds("Picture content", "is cast, but at least 1", """
            addRow() 0
            addCell(0, 0, 1, 4) 0
            # 0.5, 0.53 and 0.95, and 1 exactly
            setSize(0, 20, 1) 101
            cellHeight(0, 10) 1
            cellHeight(0, 19) 1
            setSize(0, 19, 1) 2001
            cellHeight(0, 10) 1
            setSize(0, 2, 2) 1901
            cellHeight(0, 1) 1
            """);
    }

    private static void cellSizes() {
        Sentence.holds("Cell sizes", "those of its content plus 2 * padding", """
            run "row;cell01p=abc_de;pic11=9x5;" 3
            property(0, 5) 3
            property(0, 6) 6
            setMeasure(2, 1) 0
            property(0, 5) 5
            property(0, 6) 8
            setMeasure(2, 2) 1
            property(0, 5) 7
            property(0, 6) 10
            property(1, 5) 9
            property(1, 6) 13
            """);
        Sentence.holds("Cell sizes", "the sum of the widths of its columns plus gap * (span - 1)", """
            # two words that need 9 for one line; the gaps add 2 to the table height, then 4, then 0
            setColumns(4) 3
            run "row;row;cell04p=abcd_efgh;" 3
            heightFor(2, 1, 1, 1) 5
            heightFor(2, 2, 1, 1) 4
            setMeasure(1, 2) 1
            heightFor(1, 1, 1, 1) 7
            setMeasure(1, 0) 2
            heightFor(2, 2, 2, 2) 2
            heightFor(3, 2, 2, 2) 1
            # a span of 1 has no gaps
            new
            setMeasure(1, 2) 1
            run "row;cell11p=abcd_efgh;" 2
            heightFor(1, 9, 1, 0) 5
            heightFor(1, 8, 1, 0) 6
            """);
        Sentence.holds("Cell sizes", "content height for the content width c - 2 * padding, plus 2 * padding", """
            run "row;cell01p=abcd_efgh;pic11=10x10;cell21h=a;" 4
            setMeasure(2, 2) 0
            cellHeight(0, 12) 6
            cellHeight(0, 13) 5
            cellHeight(1, 13) 13
            cellHeight(1, 14) 14
            clearWords(2) 1
            cellHeight(2, 4) 4
            setMeasure(2, 1) 2
            cellHeight(2, 2) 2
            cellHeight(0, 10) 4
            cellHeight(0, 11) 3
            """);
    }

    private static void heights() {
        Sentence.holds("Cell sizes", "The height of a row is the greatest height of its cells", """
            run "row;pic01=1x3;pic11=1x5;pic21=1x4;row;pic01=1x2;" 6
            rowHeight(0, true) 5
            rowHeight(0, false) 5
            rowHeight(1, true) 2
            removeCell(1) 3
            rowHeight(0, true) 4
            """);
        Sentence.holds("Cell sizes", "0 if it has no cells", """
            run "row;row;" 2
            rowHeight(0, true) 0
            rowHeight(1, false) 0
            # the padding belongs to cells
            setMeasure(2, 2) 0
            rowHeight(0, true) 0
            addCell(0, 0, 1, 0) 0
            rowHeight(0, true) 4
            removeCell(0) 0
            rowHeight(0, true) 0
            """);
        Sentence.holds("Cell sizes", "the sum of the heights of all rows plus gap * (rows + 1)", """
            # no rows, and six of them
            bestHeight() 1
            setMeasure(1, 2) 1
            autoHeight() 2
            heightFor(1, 1, 1, 1) 2
            setMeasure(1, 0) 2
            bestHeight() 0
            run "row;pic01=1x1;row;pic01=1x2;row;row;row;row;pic01=1x4;" 9
            bestHeight() 7
            setMeasure(1, 1) 0
            bestHeight() 14
            autoHeight() 14
            setMeasure(1, 2) 1
            bestHeight() 21
            heightFor(1, 1, 1, 1) 21
            """);
    }
}
