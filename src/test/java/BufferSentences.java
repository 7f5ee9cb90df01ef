/** The sentences of the promises 12 to 14: the buffer, execute and the position of an error. */
final class BufferSentences {
    private BufferSentences() {
    }

    static void check() {
        append();
        appendRefused();
        execute();
        executeRefused();
        errorPosition();
    }

    private static void append() {
        Sentence.holds("Promise 12", "Appends up to four characters to the buffer", """
            # the most significant byte first
            append(0x726f773b) 4
            execute() 1
            count(1) 1
            append(0x726f773b) 4
            append(0x6761703d) 8
            append(0x323b726f) 12
            append(0x773b) 14
            execute() 3
            count(1) 3
            setMeasure(1, 1) 2
            """);
        Sentence.holds("Promise 12", "where bytes that are 0 are skipped", """
            # before, between and behind, and all four
            append(0x00726f77) 3
            append(0x3b000000) 4
            append(0x72006f00) 6
            append(0x00770000) 7
            append(0x0000003b) 8
            append(0) 8
            execute() 2
            count(1) 2
            append(0x72000077) 2
            execute() !IllegalArgumentException
            errorPosition() 0
            """);
        Sentence.holds("Promise 12", "- `packed`: the characters", """
            # each of the four places with the least and the greatest character
            append(0x21212121) 4
            append(0x7e7e7e7e) 8
            append(0x21000000) 9
            append(0x007e0000) 10
            append(0x00002100) 11
            append(0x0000007e) 12
            """);
        Sentence.holds("Promise 12", "Returns the number of characters in the buffer", """
            append(0) 0
            append(0x61) 1
            append(0x6161) 3
            append(0x616161) 6
            append(0x61616161) 10
            append(0) 10
            append "aaaaaaaaaaaaaaaaaaaaaaaaaaaaaaaaaaaaaaaaaaaaaaaaaa" 60
            append(0) 60
            """);
    }

    private static void appendRefused() {
        StringBuilder bytes = new StringBuilder("append(0x61) 1\n");
        for (int value : new int[] {1, 9, 10, 31, 32, 127, 128, 129, 160, 161, 254, 255}) {
            for (int shift = 0; shift < 32; shift += 8) {
                bytes.append("append(").append(value << shift).append(") !IllegalArgumentException\n");
                bytes.append("append(").append(0x61616161 & ~(255 << shift) | value << shift);
                bytes.append(") !IllegalArgumentException\n");
            }
        }
        Sentence.holds("Promise 12", "Throws `IllegalArgumentException` if a byte that is not 0 is not from 33 to 126", bytes + """
            append(-2147483648) !IllegalArgumentException
            append(2147483647) !IllegalArgumentException
            append(-1) !IllegalArgumentException
            append(33) 2
            append(126) 3
            """);
        Sentence.holds("Promise 12", "Throws `IllegalStateException` if there would be more than 60 characters", """
            append "width=30;width=30;width=30;width=30;width=30;width=30;gap" 57
            append(0x3d323b3b) !IllegalStateException
            append(0x3d320000) 59
            append(0x3b3b) !IllegalStateException
            append(0x003b0000) 60
            append(0x3b) !IllegalStateException
            append(0x3b000000) !IllegalStateException
            append(0x3b3b3b3b) !IllegalStateException
            # a byte that is not allowed comes first
            append(32) !IllegalArgumentException
            append(0x61616180) !IllegalArgumentException
            append(0) 60
            execute() 7
            setMeasure(1, 1) 2
            """);
    }

    private static void execute() {
        Sentence.holds("Promise 13", "Reads the text in the buffer and executes its commands", """
            append "width=9;gap=0;pad=2;col0=fix9;row;pic01=3x2;" 44
            count(1) 0
            execute() 6
            setMeasure(0, 30) 9
            setMeasure(1, 1) 0
            setMeasure(2, 0) 2
            setColumn(0, 0, 0) 109
            count(1) 1
            setSize(0, 1, 1) 302
            """);
        Sentence.holds("Promise 13", "The buffer is empty afterwards, also if an exception is thrown", """
            append "row;" 4
            execute() 1
            append(0) 0
            append "row!" 4
            execute() !IllegalArgumentException
            append(0) 0
            append "pic01=1x1;pic01=1x1;" 20
            execute() !IllegalStateException
            append(0) 0
            # an empty one, and a full one
            execute() !IllegalArgumentException
            append(0) 0
            append "width=30;width=30;width=30;width=30;width=30;width=30;gap=1!" 60
            execute() !IllegalArgumentException
            append(0x726f773b) 4
            execute() 1
            count(1) 2
            """);
        Sentence.holds("Promise 13", "if there is an error, no command is executed", """
            # a form error in the last command
            run "width=9;gap=0;pad=2;col0=fix9;col1=pct9;row;pic01=3x2;row" form 57
            setMeasure(0, 30) 30
            setMeasure(1, 1) 1
            setMeasure(2, 0) 0
            setColumn(0, 0, 0) 0
            setColumn(1, 0, 0) 0
            count(1) 0
            count(2) 0
            # an execution error in the last and in the first command
            run "width=9;gap=0;pad=2;col0=fix9;row;pic01=3x2;pic01=3x2;" execution 44
            run "pic01=3x2;width=9;gap=0;pad=2;col0=fix9;row;" execution 0
            setMeasure(0, 30) 30
            setColumn(0, 0, 0) 0
            count(1) 0
            # the cells that there were stay
            run "row;cell01p=a_b;" 2
            run "row;cell01p=a;cell01p=b;" execution 14
            count(1) 1
            property(0, 4) 2
            """);
        Sentence.holds("Promise 13", "Returns the number of commands", """
            run "row;" 1
            run "gap=0;gap=0;gap=0;gap=0;gap=0;gap=0;gap=0;gap=0;gap=0;gap=0;" 10
            run "row;row;row;row;row;" 5
            run "width=30;col0=fix36;cell02p=a_b/c~d-e;pic21=20x20;" 4
            """);
    }

    private static void executeRefused() {
        Sentence.holds("Promise 13", "Throws `IllegalArgumentException` if there is a form error", """
            execute() !IllegalArgumentException
            run "row" form 3
            run "width=7;" form 6
            # also behind a command that cannot be executed
            run "pic01=1x1;pic31=1x1;" form 13
            """);
        Sentence.holds("Promise 13", "Throws `IllegalStateException` if there is an execution error", """
            run "pic01=1x1;" execution 0
            run "row;row;row;row;row;row;row;" execution 24
            run "row;pic01=1x1;pic01=1x1;" execution 14
            """);
    }

    private static void errorPosition() {
        Sentence.holds("Promise 14", "Returns the position of the error in the text that execute read most recently", """
            run "row;rows;" form 4
            errorPosition() 4
            run "row;pic01=1x1;pic01=1x1;" execution 14
            errorPosition() 14
            # other calls, refused ones among them, leave it
            append "row" 3
            append(32) !IllegalArgumentException
            addRow() 0
            save() 0
            restore() 0
            setColumns(5) !IllegalArgumentException
            errorPosition() 14
            execute() !IllegalArgumentException
            errorPosition() 3
            """);
        Sentence.holds("Promise 14", "Returns the index of the character", """
            # the first, the last, and behind the last of sixty
            run "!" form 0
            execute() !IllegalArgumentException
            errorPosition() 0
            run "width=30;width=30;width=30;width=30;width=30;width=30;gap=1!" form 59
            run "width=30;width=30;width=30;width=30;width=30;width=30;width=" form 60
            run "width=30;width=30;width=30;width=30;width=30;gap=1;pic01=1x" form 59
            """);
        Sentence.holds("Promise 14", "or -1 if that text had no error or execute was not called", """
            errorPosition() -1
            append "rows;" 5
            errorPosition() -1
            execute() !IllegalArgumentException
            errorPosition() 0
            run "row;" 1
            errorPosition() -1
            errorPosition() -1
            """);
    }
}
