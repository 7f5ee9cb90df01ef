/** Promises 12 to 14: the buffer, its commands and their errors. */
public final class TextTest {
    private TextTest() {
    }

    public static void main(String[] args) {
        append();
        commands();
        formErrorsOfWords();
        formErrorsOfNumbers();
        formErrorsOfCells();
        executionErrors();
        errorPosition();
        Promise.end();
    }

    private static void append() {
        Promise.check(12, """
            append(0) 0
            append(33) 1
            append(126) 2
            append(0x21000000) 3
            append(0x7e007e00) 5
            append(0x61626364) 9
            append(32) !IllegalArgumentException
            append(127) !IllegalArgumentException
            append(-1) !IllegalArgumentException
            append(128) !IllegalArgumentException
            append(0x20616161) !IllegalArgumentException
            append(0x61616120) !IllegalArgumentException
            append(0x617f6161) !IllegalArgumentException
            append(-2147483648) !IllegalArgumentException
            append(0) 9
            execute() !IllegalArgumentException
            append(0) 0
            # the most significant byte comes first, and zeros leave no trace: "row;" and "gap=2;"
            append(0x00726f77) 3
            append(0x3b006700) 5
            append(0x61703d32) 9
            append(59) 10
            execute() 2
            count(1) 1
            setMeasure(1, 1) 2
            # sixty characters are the most
            append(0x61616161) 4
            append(0x61616161) 8
            append(0x61616161) 12
            append(0x61616161) 16
            append(0x61616161) 20
            append(0x61616161) 24
            append(0x61616161) 28
            append(0x61616161) 32
            append(0x61616161) 36
            append(0x61616161) 40
            append(0x61616161) 44
            append(0x61616161) 48
            append(0x61616161) 52
            append(0x61616161) 56
            append(0x616161) 59
            append(0x6161) !IllegalStateException
            append(0x61616161) !IllegalStateException
            append(0x6120) !IllegalArgumentException
            append(0) 59
            append(0x61000000) 60
            append(97) !IllegalStateException
            append(32) !IllegalArgumentException
            append(0) 60
            execute() !IllegalArgumentException
            errorPosition() 0
            append(0x61616161) 4
            """);
    }

    private static void commands() {
        Promise.check(13, """
            run "row;" 1
            count(1) 1
            run "width=8;width=36;gap=0;gap=2;pad=0;pad=2;" 6
            setMeasure(0, 30) 36
            setMeasure(1, 1) 2
            setMeasure(2, 0) 2
            run "width=9;gap=1;pad=1;" 3
            setMeasure(0, 30) 9
            setMeasure(1, 1) 1
            setMeasure(2, 0) 1
            run "col0=fix1;col1=fix36;col2=pct1;" 3
            setColumn(0, 0, 0) 101
            setColumn(1, 0, 0) 136
            setColumn(2, 2, 7) 201
            run "col0=pct99;col2=auto;" 2
            setColumn(0, 0, 0) 299
            setColumn(2, 0, 0) 0
            # the marks are the breaks 0 to 3: ab c | d~e- f
            run "cell01p=ab_c/d~e-f;" 1
            property(0, 0) 0
            property(0, 1) 0
            property(0, 2) 1
            property(0, 3) 0
            property(0, 4) 5
            property(0, 5) 4
            property(0, 6) 4
            lineCount(0, 4) 2
            lineLength(0, 4, 0) 4
            lineLength(0, 4, 1) 4
            # a cell goes into the last row; the digits are its column and its span
            run "row;row;cell12h=abcdefghijkl;pic01=20x3;" 4
            property(1, 0) 2
            property(1, 1) 1
            property(1, 2) 2
            property(1, 3) 1
            property(1, 5) 12
            property(2, 3) 4
            property(2, 1) 0
            property(2, 2) 1
            setSize(2, 1, 1) 2003
            run "row;cell01q=a;cell11c=a_b;pic21=1x20;" 4
            property(3, 3) 2
            property(4, 3) 3
            property(4, 5) 3
            setSize(5, 1, 1) 120
            # twelve words, and sixty characters
            run "row;cell03p=a_b_c_d_e_f_g_h_i_j_k_l;width=30;width=30;gap=1;" 5
            property(6, 4) 12
            # a word that is added later follows a space
            new
            run "row;cell01p=abc;" 2
            addWord(0, 2, 0) 2
            property(0, 5) 3
            property(0, 6) 6
            # a command sees what the earlier ones did
            new
            run "row;pic03=1x1;row;pic03=2x2;" 4
            cellAt(0, 2) 0
            cellAt(1, 2) 1
            # the number of columns decides which digits are allowed
            new
            setColumns(4) 3
            run "row;pic31=1x1;col3=fix9;" 3
            run "row;pic04=1x1;" 2
            """);
    }

    private static void formErrorsOfWords() {
        Promise.check(13, """
            run "" form 0
            run ";" form 0
            run "5" form 0
            run "Row;" form 0
            run "rows;" form 0
            run "ro;" form 0
            run "ro" form 0
            run "row" form 3
            run "row:" form 3
            run "row;;" form 4
            run "row;x" form 4
            run "row;rox;" form 4
            run "row;gap=1;Row;" form 10
            run "widths=9;" form 0
            run "cellp=a;" form 0
            run "colx=auto;" form 0
            run "picx" form 0
            run "col1=" form 5
            run "col1=5" form 5
            run "col1=;" form 5
            run "col1=aut" form 5
            run "col1=auton;" form 5
            run "col1=Auto;" form 5
            run "col1=fixx5;" form 5
            run "col1=pc9;" form 5
            run "col1=auto5;" form 9
            run "col1=auto" form 9
            run "col1;" form 4
            run "col12=auto;" form 4
            run "col" form 3
            run "col3=auto;" form 3
            run "col9=?" form 3
            run "col=auto;" form 3
            run "col?" form 3
            count(1) 0
            """);
    }

    private static void formErrorsOfNumbers() {
        Promise.check(13, """
            run "width=7;" form 6
            run "width=37;" form 6
            run "width=0;" form 6
            run "width=08;" form 6
            run "width=99" form 6
            run "width=300;" form 8
            run "width=30" form 8
            run "width=30,row;" form 8
            run "width=" form 6
            run "width=x" form 6
            run "width=-9;" form 6
            run "width" form 5
            run "width30;" form 5
            run "gap=3;" form 4
            run "gap=10;" form 4
            run "gap=20;" form 4
            run "gap=00;" form 5
            run "gap=01;" form 5
            run "pad=3;" form 4
            run "pad=1x" form 5
            run "pad:" form 3
            run "col2=fix0;" form 8
            run "col2=fix37;" form 8
            run "col2=fix;" form 8
            run "col2=fix" form 8
            run "col2=fix360;" form 10
            run "col1=pct0;" form 8
            run "col1=pct100;" form 10
            run "col1=pct07;" form 8
            run "pic01=0x1;" form 6
            run "pic01=21x1;" form 6
            run "pic01=1x0;" form 8
            run "pic01=1x21;" form 8
            run "pic01=20x200;" form 11
            run "pic01=x1;" form 6
            run "pic01=1X1;" form 7
            run "pic01=1" form 7
            run "pic01=1x" form 8
            run "pic01=1x1" form 9
            run "pic01=1xx" form 8
            count(2) 0
            """);
    }

    private static void formErrorsOfCells() {
        Promise.check(13, """
            run "cell" form 4
            run "cell0" form 5
            run "cell01" form 6
            run "cell01p" form 7
            run "cell01p=" form 8
            run "cell01p=a" form 9
            run "cell31p=a;" form 4
            run "cell:1p=a;" form 4
            run "cell04p=a;" form 5
            run "cell00p=a;" form 5
            run "cell22p=a;" form 5
            run "cell13p=a;" form 5
            run "cell0x" form 5
            run "cell01x=a;" form 6
            run "cell01P=a;" form 6
            run "cell011=a;" form 6
            run "cell01pp=a;" form 7
            run "cell01p;" form 7
            run "cell01p=;" form 8
            run "cell01p=_a;" form 8
            run "cell01p=5;" form 8
            run "cell01p=a_;" form 10
            run "cell01p=a_" form 10
            run "cell01p=a__b;" form 10
            run "cell01p=a/-b;" form 10
            run "cell01p=aB;" form 9
            run "cell01p=a1;" form 9
            run "cell01p=a=b;" form 9
            run "cell01p=abcdefghijklm;" form 20
            run "cell01p=a_abcdefghijklm;" form 22
            run "cell01p=abcdefghijkl" form 20
            run "cell01p=a_a_a_a_a_a_a_a_a_a_a_a_a;" form 31
            run "cell01p=a_a_a_a_a_a_a_a_a_a_a_a/" form 31
            run "cell01p=a_a_a_a_a_a_a_a_a_a_a_a" form 31
            run "cell01p=a_a_a_a_a_a_a_a_a_a_a_" form 30
            run "pic" form 3
            run "pic3" form 3
            run "pic0" form 4
            run "pic04=1x1;" form 4
            run "pic20=1x1;" form 4
            run "pic01" form 5
            run "pic01p=1x1;" form 5
            """);
    }

    private static void executionErrors() {
        Promise.check(13, """
            run "cell01p=a;" execution 0
            run "pic01=1x1;" execution 0
            run "width=20;cell01p=a;row;" execution 9
            setMeasure(0, 30) 30
            run "row;row;row;row;row;row;row;" execution 24
            count(1) 0
            run "row;cell02p=a;pic11=1x1;" execution 14
            run "row;pic21=1x1;cell02p=a;cell12p=a;cell01p=a;" execution 24
            count(1) 0
            # a form error comes first, wherever it is
            run "cell01p=a;rows;" form 10
            run "pic01=1x1;pic01=1x0;" form 18
            run "row;row;row;row;row;row;" 6
            run "row;" execution 0
            run "gap=2;row;" execution 6
            setMeasure(1, 1) 1
            # what an earlier call did counts too
            addCell(5, 1, 1, 0) 0
            run "cell02p=a;" execution 0
            run "cell01p=a;cell11p=a;" execution 10
            count(2) 1
            run "cell01p=a;" 1
            # a seventeenth cell
            new
            setColumns(4) 3
            run "row;pic01=1x1;pic11=1x1;pic21=1x1;pic31=1x1;" 5
            run "row;pic01=1x1;pic11=1x1;pic21=1x1;pic31=1x1;" 5
            run "row;pic01=1x1;pic11=1x1;pic21=1x1;pic31=1x1;" 5
            run "row;pic01=1x1;pic11=1x1;pic21=1x1;" 4
            run "row;pic01=1x1;cell11p=a;" execution 14
            run "pic31=1x1;row;" 2
            run "pic01=1x1;" execution 0
            run "cell01p=a;" execution 0
            count(2) 16
            """);
    }

    private static void errorPosition() {
        Promise.check(14, """
            errorPosition() -1
            run "row;rows;" form 4
            errorPosition() 4
            addRow() 0
            append(97) 1
            errorPosition() 4
            execute() !IllegalArgumentException
            errorPosition() 0
            run "pic01=1x1;pic01=1x1;" execution 10
            append(32) !IllegalArgumentException
            errorPosition() 10
            save() 0
            restore() 0
            errorPosition() 10
            run "pic01=1x1;" 1
            errorPosition() -1
            execute() !IllegalArgumentException
            errorPosition() 0
            """);
    }
}
