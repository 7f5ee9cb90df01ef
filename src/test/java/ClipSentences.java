/** The sentences of the promises 40 to 44: clips and snapshots. */
final class ClipSentences {
    /** Cell k is of kind k: the cells 0 to 3 in row 0, the cells 4 and 5 in row 1. */
    static final String CELLS_OF_ALL_KINDS = """
        setColumns(4) 3
        run "row;row;" 2
        addCell(0, 0, 1, 0) 0
        addCell(0, 1, 1, 1) 1
        addCell(0, 2, 1, 2) 2
        addCell(0, 3, 1, 3) 3
        addCell(1, 0, 1, 4) 4
        addCell(1, 1, 1, 5) 5
        """;
    /** Clip 0 has a text in place 1, clip 1 a picture in place 0; row 1 is free. */
    private static final String FILLED = """
        run "row;cell01q=ab_c;pic11=9x7;row;" 4
        makeClip(0, 0, 2) 2
        copyTo(0, 1, 0) 2
        makeClip(1, 4, 1) 1
        copyTo(1, 0, 1) 4
        """;

    private ClipSentences() {
    }

    static void check() {
        makeClip();
        makeClipRefused();
        copyTo();
        copyToRefused();
        paste();
        pasteRefused();
        save();
        restore();
        restoreKeeps();
    }

    /** Each kind of cell into a clip of each kind. */
    static String copiesIntoAllClips() {
        StringBuilder rows = new StringBuilder(CELLS_OF_ALL_KINDS);
        for (int clip = 0; clip < 6; clip++) {
            rows.append("makeClip(1, ").append(clip).append(", 1) 1\n");
            for (int cell = 0; cell < 6; cell++) {
                boolean fits = cell == clip || clip == 0 && cell < 4 || clip == 4 && cell == 5;
                rows.append("copyTo(1, 0, ").append(cell).append(") ");
                rows.append(fits ? String.valueOf(cell) : "!IllegalArgumentException").append('\n');
            }
        }
        return rows.toString();
    }

    private static void makeClip() {
        Sentence.holds("Promise 40", "Makes a clip with empty places, in place of what it was", FILLED + """
            makeClip(0, 0, 2) 2
            paste(0, 1, 1, 0) !NoSuchElementException
            makeClip(1, 5, 3) 3
            paste(1, 0, 1, 0) !NoSuchElementException
            copyTo(1, 0, 1) !IllegalArgumentException
            # fewer places, and none
            makeClip(0, 0, 1) 1
            copyTo(0, 1, 0) !NoSuchElementException
            makeClip(0, 0, 0) 0
            copyTo(0, 0, 0) !NoSuchElementException
            # more again: what was there before does not come back
            makeClip(0, 0, 3) 3
            paste(0, 1, 1, 0) !NoSuchElementException
            copyTo(0, 2, 0) 2
            makeClip(0, 0, 3) 3
            paste(0, 2, 1, 0) !NoSuchElementException
            """);
        Sentence.holds("Promise 40", "- `clip`: the clip, 0 or 1", FILLED + """
            makeClip(0, 0, 3) 3
            paste(1, 0, 1, 0) 2
            makeClip(1, 0, 3) 3
            paste(1, 0, 1, 1) !NoSuchElementException
            """);
        Sentence.holds("Promise 40", "- `kind`: the kind for which it is made, 0 to 5", """
            makeClip(0, 0, 1) 1
            makeClip(0, 1, 1) 1
            makeClip(0, 2, 1) 1
            makeClip(0, 3, 1) 1
            makeClip(0, 4, 1) 1
            makeClip(0, 5, 1) 1
            """);
        Sentence.holds("Promise 40", "- `size`: the number of places, 0 to 3", CELLS_OF_ALL_KINDS + """
            makeClip(0, 5, 0) 0
            copyTo(0, 0, 5) !NoSuchElementException
            makeClip(0, 5, 3) 3
            copyTo(0, 0, 5) 5
            copyTo(0, 2, 5) 5
            copyTo(0, 3, 5) !NoSuchElementException
            """);
        Sentence.holds("Promise 40", "Returns the number of places", """
            makeClip(1, 0, 3) 3
            makeClip(1, 0, 0) 0
            makeClip(1, 0, 2) 2
            makeClip(1, 0, 1) 1
            """);
    }

    private static void makeClipRefused() {
        Sentence.holds("Promise 40", "Throws `IndexOutOfBoundsException` if there is no such clip", FILLED + """
            makeClip(<0..1>, 0, 1) !IndexOutOfBoundsException
            makeClip(2, 6, 4) !IndexOutOfBoundsException
            """);
        Sentence.holds("Promise 40", "Throws `IllegalArgumentException` if the kind", FILLED + """
            makeClip(0, <0..5>, 1) !IllegalArgumentException
            makeClip(1, 6, 0) !IllegalArgumentException
            """);
        Sentence.holds("Promise 40", "or the size is out of range", FILLED + """
            makeClip(0, 0, <0..3>) !IllegalArgumentException
            makeClip(1, 5, 4) !IllegalArgumentException
            """);
    }

    private static void copyTo() {
        Sentence.holds("Promise 41", "Copies the content of a cell, with its kind, into a place of a clip", """
            # an empty text, twelve words, and the least and the greatest picture
            setColumns(4) 3
            run "row;cell11c=a_b_c_d_e_f_g_h_i_j_k_l;row;row;pic31=20x20;" 5
            addCell(0, 0, 1, 2) 2
            addCell(0, 2, 1, 5) 3
            makeClip(0, 0, 3) 3
            makeClip(1, 4, 3) 3
            copyTo(0, 2, 2) 2
            copyTo(0, 0, 0) 3
            copyTo(1, 1, 3) 5
            copyTo(1, 2, 1) 4
            paste(0, 2, 1, 0) 4
            property(4, 3) 2
            property(4, 4) 0
            paste(0, 0, 1, 1) 5
            property(5, 3) 3
            property(5, 4) 12
            property(5, 5) 23
            addWord(5, 1, 0) !IllegalStateException
            paste(1, 1, 1, 2) 6
            property(6, 3) 5
            setSize(6, 1, 1) 101
            paste(1, 2, 1, 3) 7
            property(7, 3) 4
            setSize(7, 1, 1) 2020
            # in the place of what was there
            copyTo(0, 0, 2) 2
            paste(0, 0, 2, 0) 8
            property(8, 4) 0
            """);
        Sentence.holds("Promise 41", "Later changes of the cell do not change the copy", FILLED + """
            addWord(0, 12, 0) 3
            setKind(0, 3) 2
            setSize(1, 20, 20) 907
            setKind(1, 5) 4
            paste(0, 1, 1, 0) 2
            property(2, 3) 2
            property(2, 4) 2
            property(2, 6) 6
            paste(1, 0, 1, 1) 3
            property(3, 3) 4
            setSize(3, 1, 1) 907
            clearWords(0) 3
            removeCell(0) 3
            removeCell(0) 2
            paste(0, 1, 0, 0) 2
            property(2, 4) 2
            """);
        Sentence.holds("Promise 41", "- `clip`: the clip", FILLED + """
            copyTo(0, 0, 0) 2
            copyTo(1, 0, 1) 4
            copyTo(1, 0, 0) !IllegalArgumentException
            """);
        Sentence.holds("Promise 41", "- `place`: the place, from 0", """
            run "row;cell01p=a;cell11p=a_b;cell21p=a_b_c;row;" 5
            makeClip(0, 0, 3) 3
            copyTo(0, 0, 0) 0
            copyTo(0, 1, 1) 0
            copyTo(0, 2, 2) 0
            paste(0, 0, 1, 0) 3
            paste(0, 1, 1, 1) 4
            paste(0, 2, 1, 2) 5
            property(3, 4) 1
            property(4, 4) 2
            property(5, 4) 3
            """);
        Sentence.holds("Promise 41", "- `cell`: the cell", TableSentences.SIXTEEN_CELLS + """
            setSize(15, 9, 7) 101
            makeClip(0, 4, 2) 2
            copyTo(0, 0, 0) 4
            copyTo(0, 1, 15) 4
            removeCell(15) 15
            paste(0, 1, 3, 3) 15
            setSize(15, 1, 1) 907
            """);
        Sentence.holds("Promise 41", "Returns the kind of the cell", CELLS_OF_ALL_KINDS + """
            makeClip(0, 0, 1) 1
            makeClip(1, 4, 1) 1
            copyTo(0, 0, 0) 0
            copyTo(0, 0, 3) 3
            copyTo(1, 0, 4) 4
            copyTo(1, 0, 5) 5
            """);
    }

    private static void copyToRefused() {
        Sentence.holds("Promise 41", "Throws `IndexOutOfBoundsException` if there is no such clip", FILLED + """
            copyTo(<0..1>, 0, 0) !IndexOutOfBoundsException
            """);
        Sentence.holds("Promise 41", "no such clip or cell", FILLED + """
            copyTo(0, 0, <0..1>) !IndexOutOfBoundsException
            new
            makeClip(0, 0, 1) 1
            copyTo(0, 0, 0) !IndexOutOfBoundsException
            """);
        Sentence.holds("Promise 41", "Throws `IllegalStateException` if the clip is not made", """
            run "row;cell01p=a;" 2
            copyTo(0, 0, 0) !IllegalStateException
            copyTo(1, 0, 0) !IllegalStateException
            copyTo(1, 3, 0) !IllegalStateException
            makeClip(0, 0, 1) 1
            copyTo(1, 0, 0) !IllegalStateException
            # one without places is made
            makeClip(1, 0, 0) 0
            copyTo(1, 0, 0) !NoSuchElementException
            """);
        Sentence.holds("Promise 41", "NoSuchElementException if there is no such place", FILLED + """
            copyTo(0, <0..1>, 0) !NoSuchElementException
            copyTo(1, <0..0>, 1) !NoSuchElementException
            makeClip(0, 0, 3) 3
            copyTo(0, <0..2>, 0) !NoSuchElementException
            copyTo(0, 3, 1) !NoSuchElementException
            makeClip(0, 0, 0) 0
            copyTo(0, 0, 0) !NoSuchElementException
            """);
        Sentence.holds("Promise 41", "if the kind of the cell is neither that of the clip nor a subkind of it",
            copiesIntoAllClips());
    }

    private static void paste() {
        Sentence.holds("Promise 42", "Adds a cell of span 1 with a copy of the content in a place of a clip", """
            # of a cell of span 4
            setColumns(4) 3
            run "row;cell04h=ab_c;row;" 3
            makeClip(0, 1, 1) 1
            copyTo(0, 0, 0) 1
            paste(0, 0, 1, 0) 1
            property(1, 0) 1
            property(1, 1) 0
            property(1, 2) 1
            property(1, 3) 1
            property(1, 6) 4
            cellAt(1, 1) -1
            # the layouts that were asked for before are other ones now
            bestHeight() 7
            autoHeight() 7
            paste(0, 0, 1, 3) 2
            removeCell(1) 2
            bestHeight() 7
            columnWidth(3, 0) 2
            makeClip(1, 5, 1) 1
            addCell(1, 0, 1, 5) 2
            setSize(2, 9, 7) 101
            copyTo(1, 0, 2) 5
            removeCell(2) 2
            bestHeight() 7
            paste(1, 0, 1, 1) 2
            bestHeight() 12
            columnWidth(1, 0) 9
            """);
        Sentence.holds("Promise 42", "which stays there", FILLED + """
            paste(0, 1, 1, 0) 2
            addWord(2, 9, 0) 3
            setKind(2, 0) 2
            paste(0, 1, 1, 2) 3
            property(3, 3) 2
            property(3, 4) 2
            paste(1, 0, 1, 1) 4
            removeCell(4) 4
            paste(1, 0, 1, 1) 4
            """);
        Sentence.holds("Promise 42", "- `clip`: the clip", FILLED + """
            paste(0, 1, 1, 0) 2
            property(2, 3) 2
            paste(1, 0, 1, 1) 3
            property(3, 3) 4
            """);
        Sentence.holds("Promise 42", "- `place`: the place", FILLED + """
            makeClip(0, 0, 3) 3
            copyTo(0, 0, 0) 2
            clearWords(0) 2
            copyTo(0, 2, 0) 2
            paste(0, 2, 1, 0) 2
            property(2, 4) 0
            paste(0, 0, 1, 1) 3
            property(3, 4) 2
            """);
        Sentence.holds("Promise 42", "- `row`: the row of the cell", FILLED + """
            run "row;row;row;row;" 4
            paste(0, 1, 5, 0) 2
            property(2, 0) 5
            paste(0, 1, 0, 2) 3
            property(3, 0) 0
            """);
        Sentence.holds("Promise 42", "- `column`: the column of the cell", FILLED + """
            paste(0, 1, 1, 2) 2
            property(2, 1) 2
            paste(0, 1, 1, 0) 3
            property(3, 1) 0
            """);
        Sentence.holds("Promise 42", "Returns the number of the cell", TableSentences.SIXTEEN_CELLS + """
            makeClip(0, 4, 1) 1
            copyTo(0, 0, 0) 4
            removeCell(0) 15
            paste(0, 0, 0, 0) 15
            removeCell(15) 15
            removeCell(0) 14
            paste(0, 0, 0, 0) 14
            """);
    }

    private static void pasteRefused() {
        Sentence.holds("Promise 42", "Throws `IndexOutOfBoundsException` if there is no such clip, row or column", FILLED + """
            paste(<0..1>, 1, 1, 0) !IndexOutOfBoundsException
            paste(0, 1, <0..1>, 0) !IndexOutOfBoundsException
            paste(0, 1, 1, <0..2>) !IndexOutOfBoundsException
            # no rows, and rows and columns that there could be
            new
            makeClip(0, 0, 1) 1
            paste(0, 0, 0, 0) !IndexOutOfBoundsException
            run "row;row;row;row;row;row;" 6
            paste(0, 0, 6, 0) !IndexOutOfBoundsException
            paste(0, 0, 0, 3) !IndexOutOfBoundsException
            paste(0, 0, 5, 2) !NoSuchElementException
            """);
        Sentence.holds("Promise 42", "NoSuchElementException if the clip is not made", """
            addRow() 0
            paste(0, 0, 0, 0) !NoSuchElementException
            paste(1, 0, 0, 0) !NoSuchElementException
            paste(1, 2147483647, 0, 0) !NoSuchElementException
            """);
        Sentence.holds("Promise 42", "or there is no such place", FILLED + """
            paste(0, <0..1>, 1, 0) !NoSuchElementException
            paste(1, <0..0>, 1, 0) !NoSuchElementException
            makeClip(1, 4, 3) 3
            paste(1, <0..2>, 1, 0) !NoSuchElementException
            makeClip(1, 4, 0) 0
            paste(1, 0, 1, 0) !NoSuchElementException
            """);
        Sentence.holds("Promise 42", "or the place is empty", FILLED + """
            paste(0, 0, 1, 0) !NoSuchElementException
            makeClip(1, 4, 3) 3
            paste(1, 0, 1, 0) !NoSuchElementException
            paste(1, 2, 1, 0) !NoSuchElementException
            # an empty text is a content
            clearWords(0) 2
            copyTo(0, 0, 0) 2
            paste(0, 0, 1, 0) 2
            """);
        Sentence.holds("Promise 42", "Throws `IllegalStateException` if there are 16 cells", TableSentences.SIXTEEN_CELLS + """
            makeClip(0, 4, 1) 1
            copyTo(0, 0, 0) 4
            addRow() 4
            paste(0, 0, 4, 0) !IllegalStateException
            removeCell(3) 15
            paste(0, 0, 4, 0) 15
            paste(0, 0, 4, 1) !IllegalStateException
            """);
        Sentence.holds("Promise 42", "or the column is occupied in this row", FILLED + """
            paste(0, 1, 0, 0) !IllegalStateException
            paste(1, 0, 0, 1) !IllegalStateException
            addCell(1, 0, 2, 0) 2
            paste(0, 1, 1, 0) !IllegalStateException
            paste(0, 1, 1, 1) !IllegalStateException
            paste(0, 1, 1, 2) 3
            paste(0, 1, 1, 2) !IllegalStateException
            """);
    }

    private static void save() {
        Sentence.holds("Promise 43", "Saves the table with its measures, columns, rows and cells", """
            # a table as it is at first, and a full one
            save() 0
            run "width=8;gap=0;pad=2;col0=fix9;col2=pct9;row;pic01=1x1;" 7
            restore() 0
            count(1) 0
            setMeasure(0, 30) 30
            setMeasure(1, 1) 1
            setMeasure(2, 0) 0
            setColumn(0, 0, 0) 0
            setColumn(2, 0, 0) 0
            """ + TableSentences.SIXTEEN_CELLS + """
            run "width=36;gap=2;pad=2;col0=fix36;col3=pct99;row;row;" 7
            setSize(15, 20, 20) 101
            save() 16
            removeCell(15) 15
            removeCell(0) 14
            run "width=8;gap=0;pad=0;col0=auto;col3=auto;" 5
            restore() 16
            count(0) 4
            count(1) 6
            count(2) 16
            setSize(15, 1, 1) 2020
            property(0, 1) 0
            setMeasure(0, 30) 36
            setMeasure(1, 1) 2
            setMeasure(2, 0) 2
            setColumn(0, 0, 0) 136
            setColumn(3, 0, 0) 299
            """);
        Sentence.holds("Promise 43", "replacing an earlier snapshot", """
            run "row;cell01p=a;" 2
            save() 1
            removeCell(0) 0
            addRow() 1
            save() 0
            restore() 0
            count(1) 2
            """);
        Sentence.holds("Promise 43", "Returns the number of cells", TableSentences.SIXTEEN_CELLS + """
            save() 16
            removeCell(0) 15
            save() 15
            new
            save() 0
            """);
    }

    private static void restore() {
        Sentence.holds("Promise 44", "Restores the snapshot, which is kept", FILLED + """
            save() 2
            # the snapshot does not change with the table
            addWord(0, 5, 0) 3
            setKind(0, 1) 2
            setSize(1, 1, 1) 907
            addRow() 2
            restore() 2
            property(0, 3) 2
            property(0, 4) 2
            setSize(1, 1, 1) 907
            count(1) 2
            removeCell(0) 1
            restore() 2
            property(0, 4) 2
            clearWords(0) 2
            restore() 2
            property(0, 4) 2
            # a number of columns that the table does not have now
            removeCell(0) 1
            removeCell(0) 0
            setColumns(1) 3
            restore() 2
            count(0) 3
            property(1, 1) 1
            # the layouts that were asked for before are those of the snapshot again
            bestHeight() 6
            columnWidth(0, 0) 4
            removeCell(0) 1
            removeCell(0) 0
            bestHeight() 3
            columnWidth(0, 0) 1
            restore() 2
            bestHeight() 6
            columnWidth(0, 0) 4
            """);
        Sentence.holds("Promise 44", "Returns the number of cells", TableSentences.SIXTEEN_CELLS + """
            save() 16
            removeCell(0) 15
            restore() 16
            new
            save() 0
            restore() 0
            """);
        Sentence.holds("Promise 44", "Throws `IllegalStateException` if nothing was saved", """
            restore() !IllegalStateException
            run "row;cell01p=a;" 2
            restore() !IllegalStateException
            save() 1
            restore() 1
            """);
    }

    private static void restoreKeeps() {
        Sentence.holds("Promise 44", "The buffer, the error position and the clips stay as they are", FILLED + """
            # each full place of each clip
            save() 2
            restore() 2
            paste(0, 1, 1, 0) 2
            property(2, 3) 2
            property(2, 4) 2
            paste(1, 0, 1, 1) 3
            setSize(3, 1, 1) 907
            paste(0, 0, 1, 2) !NoSuchElementException
            removeCell(3) 3
            removeCell(2) 2
            save() 2
            run "row;rows;" form 4
            append "row;" 4
            copyTo(0, 0, 0) 2
            makeClip(1, 5, 3) 3
            restore() 2
            errorPosition() 4
            append(0) 4
            execute() 1
            count(1) 3
            errorPosition() -1
            paste(0, 0, 2, 0) 2
            copyTo(1, 2, 1) !IllegalArgumentException
            # a full buffer
            append "width=30;width=30;width=30;width=30;width=30;width=30;gap=2;" 60
            restore() 2
            append(0x61) !IllegalStateException
            execute() 7
            setMeasure(1, 1) 2
            """);
    }
}
