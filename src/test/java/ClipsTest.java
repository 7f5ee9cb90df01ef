/** Promises 40 to 44: clips and snapshots. */
public final class ClipsTest {
    private ClipsTest() {
    }

    public static void main(String[] args) {
        makeClip();
        copyTo();
        paste();
        save();
        restore();
        Promise.end();
    }

    private static void makeClip() {
        Promise.check(40, """
            makeClip(0, 0, 0) 0
            makeClip(1, 5, 3) 3
            makeClip(0, 4, 1) 1
            makeClip(2, 0, 1) !IndexOutOfBoundsException
            makeClip(-1, 0, 1) !IndexOutOfBoundsException
            makeClip(2, 9, 9) !IndexOutOfBoundsException
            makeClip(0, -1, 1) !IllegalArgumentException
            makeClip(0, 6, 1) !IllegalArgumentException
            makeClip(0, 0, -1) !IllegalArgumentException
            makeClip(0, 0, 4) !IllegalArgumentException
            makeClip(0, 0, 2147483647) !IllegalArgumentException
            # after an exception the clip is what it was: for pictures, with one place
            run "row;pic01=3x4;cell11p=a;" 3
            copyTo(0, 0, 0) 4
            copyTo(0, 0, 1) !IllegalArgumentException
            makeClip(0, 4, 4) !IllegalArgumentException
            addRow() 1
            paste(0, 0, 1, 0) 2
            # made again it is empty
            makeClip(0, 0, 2) 2
            paste(0, 0, 1, 1) !NoSuchElementException
            copyTo(0, 1, 1) 0
            copyTo(0, 1, 0) !IllegalArgumentException
            paste(0, 1, 1, 1) 3
            paste(0, 0, 1, 2) !NoSuchElementException
            makeClip(0, 0, 0) 0
            copyTo(0, 0, 1) !NoSuchElementException
            paste(0, 0, 1, 2) !NoSuchElementException
            # each clip is its own
            copyTo(1, 0, 0) !IllegalArgumentException
            """);
    }

    private static void copyTo() {
        Promise.check(41, """
            setColumns(4) 3
            run "row;cell01p=a_b;cell11h=a;cell21q=a;cell31c=a;row;" 6
            addCell(1, 0, 1, 4) 4
            addCell(1, 1, 1, 5) 5
            copyTo(0, 0, 0) !IllegalStateException
            copyTo(0, 9, 6) !IndexOutOfBoundsException
            copyTo(2, 0, 0) !IndexOutOfBoundsException
            copyTo(-1, 0, 0) !IndexOutOfBoundsException
            copyTo(0, 0, -1) !IndexOutOfBoundsException
            # kind 0 takes 0 to 3
            makeClip(0, 0, 3) 3
            copyTo(0, 0, 0) 0
            copyTo(0, 1, 1) 1
            copyTo(0, 2, 2) 2
            copyTo(0, 0, 3) 3
            copyTo(0, 0, 4) !IllegalArgumentException
            copyTo(0, 0, 5) !IllegalArgumentException
            copyTo(0, 3, 4) !NoSuchElementException
            copyTo(0, -1, 0) !NoSuchElementException
            copyTo(1, 3, 4) !IllegalStateException
            # kind 4 takes 4 and 5
            makeClip(1, 4, 1) 1
            copyTo(1, 0, 4) 4
            copyTo(1, 0, 5) 5
            copyTo(1, 0, 0) !IllegalArgumentException
            copyTo(1, 1, 0) !NoSuchElementException
            # the others take only themselves
            makeClip(1, 5, 1) 1
            copyTo(1, 0, 5) 5
            copyTo(1, 0, 4) !IllegalArgumentException
            makeClip(1, 1, 1) 1
            copyTo(1, 0, 1) 1
            copyTo(1, 0, 0) !IllegalArgumentException
            copyTo(1, 0, 2) !IllegalArgumentException
            makeClip(1, 2, 1) 1
            copyTo(1, 0, 2) 2
            copyTo(1, 0, 3) !IllegalArgumentException
            makeClip(1, 3, 1) 1
            copyTo(1, 0, 3) 3
            copyTo(1, 0, 1) !IllegalArgumentException
            # later changes of the cell leave the copy as it is
            copyTo(0, 0, 0) 0
            addWord(0, 12, 0) 3
            setKind(0, 2) 0
            removeCell(0) 5
            addRow() 2
            paste(0, 0, 2, 0) 5
            property(5, 3) 0
            property(5, 4) 2
            property(5, 6) 3
            """);
    }

    private static void paste() {
        Promise.check(42, """
            setColumns(4) 3
            run "row;cell03h=ab_c;pic31=9x7;row;row;row;row;" 7
            paste(0, 0, 0, 0) !NoSuchElementException
            makeClip(0, 0, 2) 2
            makeClip(1, 4, 1) 1
            copyTo(0, 1, 0) 1
            copyTo(1, 0, 1) 4
            # always of span 1, and the copy stays
            paste(0, 1, 1, 1) 2
            property(2, 0) 1
            property(2, 1) 1
            property(2, 2) 1
            property(2, 3) 1
            property(2, 4) 2
            property(2, 6) 4
            paste(0, 1, 1, 2) 3
            paste(1, 0, 1, 0) 4
            setSize(4, 1, 1) 907
            paste(1, 0, 1, 3) 5
            property(5, 6) 9
            property(2, 5) 2
            # a change of the pasted cell does not change the copy
            addWord(2, 9, 0) 3
            paste(0, 1, 2, 0) 6
            property(6, 4) 2
            paste(0, 0, 2, 1) !NoSuchElementException
            paste(0, 2, 2, 1) !NoSuchElementException
            paste(0, -1, 2, 1) !NoSuchElementException
            paste(1, 1, 2, 1) !NoSuchElementException
            paste(2, 0, 2, 1) !IndexOutOfBoundsException
            paste(-1, 0, 2, 1) !IndexOutOfBoundsException
            paste(0, 0, 5, 1) !IndexOutOfBoundsException
            paste(0, 0, -1, 1) !IndexOutOfBoundsException
            paste(0, 0, 2, 4) !IndexOutOfBoundsException
            paste(0, 0, 2, -1) !IndexOutOfBoundsException
            # an occupied column, also by a wider cell; an empty place comes first
            paste(0, 1, 2, 0) !IllegalStateException
            paste(0, 1, 0, 1) !IllegalStateException
            paste(0, 0, 2, 0) !NoSuchElementException
            # sixteen cells
            paste(0, 1, 2, 1) 7
            paste(0, 1, 2, 2) 8
            paste(0, 1, 2, 3) 9
            paste(0, 1, 3, 0) 10
            paste(0, 1, 3, 1) 11
            paste(0, 1, 3, 2) 12
            paste(0, 1, 3, 3) 13
            paste(0, 1, 4, 0) 14
            paste(0, 1, 4, 1) 15
            paste(0, 1, 4, 2) !IllegalStateException
            paste(0, 0, 4, 2) !NoSuchElementException
            paste(0, 1, 4, 4) !IndexOutOfBoundsException
            """);
    }

    private static void save() {
        Promise.check(43, """
            save() 0
            run "row;cell01p=a;cell11p=b;" 3
            save() 2
            removeCell(0) 1
            save() 1
            removeCell(0) 0
            # the later snapshot replaces the earlier one
            restore() 1
            property(0, 1) 1
            save() 1
            # the snapshot does not change with the table
            addWord(0, 9, 0) 2
            setKind(0, 3) 0
            addRow() 1
            restore() 1
            property(0, 4) 1
            property(0, 3) 0
            count(1) 1
            """);
    }

    private static void restore() {
        Promise.check(44, """
            restore() !IllegalStateException
            setColumns(2) 3
            setMeasure(0, 20) 30
            setMeasure(1, 2) 1
            setMeasure(2, 1) 0
            setColumn(0, 1, 9) 0
            setColumn(1, 2, 60) 0
            run "row;cell01h=ab_c;pic11=9x7;" 3
            save() 2
            run "width=30;gap=1;pad=0;col0=pct5;col1=auto;row;cell02q=abc;" 7
            removeCell(0) 2
            removeCell(0) 1
            removeCell(0) 0
            setColumns(4) 2
            run "?" form 0
            append(0x726f) 2
            makeClip(0, 4, 1) 1
            restore() 2
            # measures, columns, rows and cells are as they were
            count(0) 2
            count(1) 1
            setMeasure(0, 20) 20
            setMeasure(1, 2) 2
            setMeasure(2, 1) 1
            setColumn(0, 1, 9) 109
            setColumn(1, 2, 60) 260
            property(0, 3) 1
            property(0, 4) 2
            property(0, 6) 6
            setSize(1, 9, 7) 907
            # the buffer, the error position and the clips are as they are now
            errorPosition() 0
            append(0x773b) 4
            execute() 1
            count(1) 2
            copyTo(0, 0, 1) 4
            # the snapshot is kept
            restore() 2
            count(1) 1
            paste(0, 0, 0, 0) !IllegalStateException
            removeCell(0) 1
            paste(0, 0, 0, 0) 1
            property(1, 6) 11
            restore() 2
            property(1, 3) 4
            """);
    }
}
