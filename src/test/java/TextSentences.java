/** The sentences of the description about the text and its errors, and about clips. */
final class TextSentences {
    private TextSentences() {
    }

    static void check() {
        buffer();
        grammarOfCommands();
        grammarOfCells();
        grammarOfNumbers();
        meanings();
        meaningOfCells();
        wordsAsRead();
        unknownWords();
        signsNotAllowed();
        wordsTooLongOrTooMany();
        endsTooEarly();
        numbersOutOfRange();
        columnsAndSpans();
        orderOfCommands();
        executionErrors();
        clips();
    }

    private static void buffer() {
        Sentence.holds("Text", "A buffer holds at most 60 characters", """
            # sixty characters that are executed, among them ten commands of six
            run "width=30;width=30;width=30;width=30;width=30;width=30;gap=2;" 7
            setMeasure(1, 1) 2
            run "pad=1;pad=1;pad=1;pad=1;pad=1;pad=1;pad=1;pad=1;pad=1;pad=2;" 10
            setMeasure(2, 0) 2
            append "width=30;width=30;width=30;width=30;width=30;width=30;gap=2" 59
            append(0x3b3b) !IllegalStateException
            append(0x3b) 60
            append(0) 60
            append(0x3b) !IllegalStateException
            append(0x3b3b3b3b) !IllegalStateException
            execute() 7
            # it is empty again
            append(0) 0
            append "width=30;width=30;width=30;width=30;width=30;width=30;pad=0;" 60
            execute() 7
            # a single cell of sixty characters
            run "row;" 1
            run "cell01p=abcdefghijkl_abcdefghijkl/abcdefghijkl~abcdefghijkl;" 1
            property(0, 4) 4
            property(0, 6) 25
            """);
    }

    private static void grammarOfCommands() {
        Sentence.holds("Text", "text = command { command }", """
            execute() !IllegalArgumentException
            errorPosition() 0
            run "row;" 1
            run "row;row;" 2
            run "row;;" form 4
            run ";row;" form 0
            """);
        Sentence.holds("Text", "command = ( \"width\" | \"gap\" | \"pad\" ) \"=\" number \";\"", """
            run "width=30;" 1
            run "gap=1;" 1
            run "pad=0;" 1
            run "width30;" form 5
            run "width=;" form 6
            run "width=30" form 8
            run "gap:1;" form 3
            run "pad=0," form 5
            run "pad==0;" form 4
            """);
        Sentence.holds("Text", "| \"col\" digit \"=\" ( \"auto\" | \"fix\" number | \"pct\" number ) \";\"", """
            run "col0=fix9;" 1
            run "col2=pct9;" 1
            run "col0=auto;" 1
            setColumn(0, 0, 0) 0
            setColumn(2, 0, 0) 209
            run "col0auto;" form 4
            run "col=auto;" form 3
            run "col00=auto;" form 4
            run "col0auto" form 4
            run "col0=;" form 5
            run "col0=9;" form 5
            run "col0=auto9;" form 9
            run "col0=fix;" form 8
            run "col0=pct;" form 8
            run "col0=fix9" form 9
            """);
        Sentence.holds("Text", "| \"row\" \";\"", """
            run "row;" 1
            count(1) 1
            run "row" form 3
            run "row=;" form 3
            run "row1;" form 3
            """);
        Sentence.holds("Text", "| \"pic\" digit digit \"=\" number \"x\" number \";\"", """
            run "row;pic01=1x1;" 2
            property(0, 3) 4
            run "pic1=1x1;" form 4
            run "pic011=1x1;" form 5
            run "pic11p=1x1;" form 5
            run "pic11=1;" form 7
            run "pic11=1X1;" form 7
            run "pic11=1xx1;" form 8
            run "pic11=x1;" form 6
            run "pic11=1x;" form 8
            run "pic11=1x1" form 9
            """);
    }

    private static void grammarOfCells() {
        Sentence.holds("Text", "| \"cell\" digit digit letter \"=\" word { mark word } \";\"", """
            run "row;cell01p=a;cell11p=a_a_a_a_a_a_a_a_a_a_a_a;" 3
            property(0, 4) 1
            property(1, 4) 12
            run "cell2p=a;" form 5
            run "cell211p=a;" form 6
            run "cell21=a;" form 6
            run "cell21pa;" form 7
            run "cell21p=;" form 8
            run "cell21p=a_;" form 10
            run "cell21p=_a;" form 8
            run "cell21p=a__a;" form 10
            run "cell21p=a" form 9
            """);
        Sentence.holds("Text", "letter = \"p\" | \"h\" | \"q\" | \"c\"", """
            setColumns(4) 3
            run "row;cell01p=a;cell11h=a;cell21q=a;cell31c=a;row;" 6
            property(0, 3) 0
            property(1, 3) 1
            property(2, 3) 2
            property(3, 3) 3
            run "cell01a=a;" form 6
            run "cell01b=a;" form 6
            run "cell01d=a;" form 6
            run "cell01o=a;" form 6
            run "cell01r=a;" form 6
            run "cell01x=a;" form 6
            run "cell01P=a;" form 6
            run "cell010=a;" form 6
            """);
        Sentence.holds("Text", "word = one to twelve letters a to z", """
            # the least and the greatest letter, and the signs next to them
            run "row;cell01p=a;cell11p=z;cell21p=abcdefghijkl;" 4
            property(0, 5) 1
            property(1, 5) 1
            property(2, 5) 12
            run "row;cell01p=mnopqrstuvwx;cell11p=zyxwvutsrqpo;" 3
            property(3, 5) 12
            property(4, 5) 12
            run "cell21p=`;" form 8
            run "cell21p={;" form 8
            run "cell21p=a`;" form 9
            run "cell21p=a{;" form 9
            run "cell21p=A;" form 8
            run "cell21p=Z;" form 8
            run "cell21p=1;" form 8
            run "cell21p=abcdefghijklm;" form 20
            """);
        Sentence.holds("Text", "mark = \"_\" | \"/\" | \"~\" | \"-\"", """
            run "row;cell01p=a_b/c~d-e;" 2
            property(0, 4) 5
            run "cell11p=a+b;" form 9
            run "cell11p=a.b;" form 9
            run "cell11p=a,b;" form 9
            run "cell11p=a=b;" form 9
            run "cell11p=a|b;" form 9
            run "cell11p=a:b;" form 9
            run "cell11p=a^b;" form 9
            run "cell11p=a}b;" form 9
            run "cell11p=a0b;" form 9
            """);
    }

    private static void grammarOfNumbers() {
        Sentence.holds("Text", "one or two digits that do not start with 0, or 0 alone", """
            run "gap=0;" 1
            run "col0=pct1;col1=pct9;col2=pct10;" 3
            setColumn(0, 0, 0) 201
            setColumn(1, 0, 0) 209
            setColumn(2, 0, 0) 210
            run "col0=pct99;" 1
            setColumn(0, 0, 0) 299
            run "gap=00;" form 5
            run "gap=01;" form 5
            run "width=09;" form 6
            run "gap=+1;" form 4
            run "gap=-1;" form 4
            # the signs next to the digits
            run "gap=/;" form 4
            run "gap=:;" form 4
            run "width=9/;" form 7
            run "width=9:;" form 7
            """);
        Sentence.holds("Text", "it is read as far as digits follow that it can have", """
            # never a third digit
            run "width=300;" form 8
            run "width=080;" form 6
            run "col0=pct100;" form 10
            run "col0=fix360;" form 10
            run "row;pic01=200x1;" form 12
            run "row;pic01=1x200;" form 14
            run "width=370;" form 6
            # never one that follows only after another sign
            run "row;pic01=2x1;" 2
            setSize(0, 1, 1) 201
            run "row;pic01=20x10;" 2
            setSize(1, 1, 1) 2010
            """);
    }

    private static void meanings() {
        Sentence.holds("Text", "width, gap and pad set the table width, the gap and the padding", """
            run "width=8;gap=0;pad=0;" 3
            setMeasure(0, 8) 8
            setMeasure(1, 0) 0
            setMeasure(2, 0) 0
            run "width=36;gap=2;pad=2;" 3
            setMeasure(0, 36) 36
            setMeasure(1, 2) 2
            setMeasure(2, 2) 2
            run "width=7;" form 6
            run "width=37;" form 6
            run "width=0;" form 6
            run "width=99;" form 6
            run "gap=3;" form 4
            run "gap=9;" form 4
            run "gap=10;" form 4
            run "pad=3;" form 4
            run "pad=20;" form 4
            """);
        Sentence.holds("Text", "col makes a column automatic, fixed with a width, or proportional with a percentage from 1 to 99", """
            setColumns(4) 3
            run "col0=fix1;col3=fix36;col1=pct1;col2=pct99;" 4
            setColumn(0, 1, 1) 101
            setColumn(3, 0, 0) 136
            setColumn(1, 0, 0) 201
            setColumn(2, 2, 100) 299
            run "col0=auto;col2=auto;" 2
            setColumn(0, 0, 0) 0
            setColumn(2, 0, 0) 0
            run "col0=fix0;" form 8
            run "col0=fix37;" form 8
            run "col0=pct0;" form 8
            run "col0=pct100;" form 10
            """);
        Sentence.holds("Text", "row adds a row", """
            run "row;row;row;row;row;row;" 6
            count(1) 6
            count(2) 0
            run "row;" execution 0
            """);
        Sentence.holds("Text", "pic adds a cell of kind 4 with a column, a span, a width and a height", """
            setColumns(4) 3
            run "row;pic01=1x20;pic13=20x1;row;pic04=2x3;" 5
            property(0, 3) 4
            property(0, 1) 0
            property(0, 2) 1
            setSize(0, 1, 1) 120
            property(1, 1) 1
            property(1, 2) 3
            setSize(1, 1, 1) 2001
            property(2, 0) 1
            property(2, 2) 4
            setSize(2, 1, 1) 203
            run "row;pic01=0x1;" form 10
            run "row;pic01=21x1;" form 10
            run "row;pic01=1x0;" form 12
            run "row;pic01=1x21;" form 12
            """);
    }

    private static void meaningOfCells() {
        Sentence.holds("Text", "cell adds a cell of kind 0, 1, 2 or 3, by its letter, to the last row", """
            # the row before, one of the same text, and one of an earlier call
            run "row;row;cell01h=a;row;cell01c=a;" 5
            property(0, 0) 1
            property(0, 3) 1
            property(1, 0) 2
            property(1, 3) 3
            # a word that is added later follows a space
            addWord(1, 2, 0) 2
            property(1, 5) 4
            setKind(1, 0) 3
            property(1, 5) 2
            property(1, 6) 4
            setKind(1, 3) 0
            run "cell11q=a;" 1
            property(2, 0) 2
            property(2, 3) 2
            addRow() 3
            run "cell01p=a;" 1
            property(3, 0) 3
            property(3, 3) 0
            """);
        Sentence.holds("Text", "the digits are its column and its span", """
            setColumns(4) 3
            run "row;cell04p=a;row;cell13p=a;row;cell31p=a;" 6
            property(0, 1) 0
            property(0, 2) 4
            property(1, 1) 1
            property(1, 2) 3
            property(2, 1) 3
            property(2, 2) 1
            """);
        Sentence.holds("Text", "the marks are the breaks 0, 1, 2 and 3, in the order above", """
            setColumns(4) 3
            run "row;cell01p=abc_de;cell11p=abc/de;cell21p=abc~de;" 4
            run "cell31p=abc-de;" 1
            property(0, 5) 3
            property(0, 6) 6
            property(1, 5) 3
            property(1, 6) 3
            property(2, 5) 6
            property(2, 6) 6
            property(3, 5) 4
            property(3, 6) 5
            """);
        Sentence.holds("Text", "there are at most 12 words", """
            run "row;cell01p=a_b/c~d-e_f/g~h-i_j/k~l;" 2
            property(0, 4) 12
            run "cell11p=a_b/c~d-e_f/g~h-i_j/k~l-m;" form 31
            """);
    }

    private static void wordsAsRead() {
        Sentence.holds("Text", "the longest sequence of letters a to z is read as one word", """
            run "rowrow;" form 0
            run "rowx;" form 0
            run "widthgap=1;" form 0
            run "cellp=a;" form 0
            run "row;colauto;" form 4
            run "col0=fixa9;" form 5
            run "col0=autox;" form 5
            run "col0=fixpct9;" form 5
            # sixty letters, and as many behind the equals sign as there can be
            run "rowrowrowrowrowrowrowrowrowrowrowrowrowrowrowrowrowrowrowrow" form 0
            run "col0=autoautoautoautoautoautoautoautoautoautoautoautoautoaut" form 5
            # a word ends where the letters end
            run "col0=fix9;" 1
            """);
    }

    private static void unknownWords() {
        StringBuilder rows = new StringBuilder();
        for (String word : "width gap pad col row cell pic".split(" ")) {
            for (int at = 0; at < word.length(); at++) {
                rows.append("run \"").append(word, 0, at).append('z').append(word.substring(at + 1)).append("0;\" form 0\n");
            }
            rows.append("run \"row;").append(word).append("a0;\" form 4\n");
        }
        for (String word : "auto fix pct".split(" ")) {
            for (int at = 0; at < word.length(); at++) {
                rows.append("run \"col0=").append(word, 0, at).append('z').append(word.substring(at + 1));
                rows.append("9;\" form 5\n");
            }
        }
        Sentence.holds("Text", "a command or column word that is not one of those above", rows.toString());
        Sentence.holds("Text", "at the first letter of a command or column word that is not one of those above", """
            run "r;" form 0
            run "ro;" form 0
            run "rows;" form 0
            run "widt=9;" form 0
            run "cel01p=a;" form 0
            run "picx=1;" form 0
            run "row;gap=1;ga=1;" form 10
            run "col0=f9;" form 5
            run "col0=fi9;" form 5
            run "col0=pctt9;" form 5
            run "col0=aut;" form 5
            run "col0=row;" form 5
            run "auto;" form 0
            run "fix9;" form 0
            # also where the end of the text cuts it off
            run "ro" form 0
            run "row;wid" form 4
            run "col0=au" form 5
            """);
    }

    private static void signsNotAllowed() {
        Sentence.holds("Text", "at a character that is not allowed", """
            run "!" form 0
            run "=" form 0
            run "5" form 0
            run "Row;" form 0
            run "~" form 0
            run "row!" form 3
            run "row;!" form 4
            run "row;Row;" form 4
            run "gap!1;" form 3
            run "gap=!;" form 4
            run "gap=1!" form 5
            run "col!=auto;" form 3
            run "col0!auto;" form 4
            run "col0=!;" form 5
            run "col0=auto!" form 9
            run "col0=fix!;" form 8
            run "cell!1p=a;" form 4
            run "cell0!p=a;" form 5
            run "cell01!=a;" form 6
            run "cell01p!a;" form 7
            run "cell01p=!;" form 8
            run "cell01p=a!" form 9
            run "cell01p=a_!;" form 10
            run "pic!1=1x1;" form 3
            run "pic0!=1x1;" form 4
            run "pic01!1x1;" form 5
            run "pic01=!x1;" form 6
            run "pic01=1!1;" form 7
            run "pic01=1x!;" form 8
            run "pic01=1x1!" form 9
            # the signs next to the digits
            run "col/=auto;" form 3
            run "col:=auto;" form 3
            """);
    }

    private static void wordsTooLongOrTooMany() {
        Sentence.holds("Text", "also the thirteenth letter of a word", """
            run "row;cell01p=abcdefghijkl;" 2
            run "cell11p=abcdefghijklm;" form 20
            run "cell11p=abcdefghijklmnop;" form 20
            run "cell11p=a_b-abcdefghijklm;" form 24
            run "cell11p=abcdefghijklm" form 20
            """);
        Sentence.holds("Text", "or the mark before a thirteenth word", """
            run "row;cell01p=a_b_c_d_e_f_g_h_i_j_k_l;" 2
            run "cell11p=a_b_c_d_e_f_g_h_i_j_k_l_m;" form 31
            run "cell11p=a_b_c_d_e_f_g_h_i_j_k_l/m;" form 31
            run "cell11p=a_b_c_d_e_f_g_h_i_j_k_l~m;" form 31
            run "cell11p=a_b_c_d_e_f_g_h_i_j_k_l-m_n;" form 31
            run "cell11p=a_b_c_d_e_f_g_h_i_j_k_l_" form 31
            run "cell11p=a_b_c_d_e_f_g_h_i_j_k_l_;" form 31
            """);
    }

    private static void endsTooEarly() {
        StringBuilder rows = new StringBuilder();
        String[] commands = {"width=30;", "gap=2;", "pad=0;", "row;", "col0=auto;", "col1=fix9;", "col2=pct9;",
            "cell01p=ab_c;", "pic01=9x9;"};
        for (String command : commands) {
            int word = command.split("[^a-z]")[0].length();
            for (int length = word; length < command.length(); length++) {
                String text = command.substring(0, length);
                // A cut column word is not one of those above, and a cut width is out of range.
                boolean cut = text.matches("col.=[a-z]{1,3}") && !text.matches("col.=(fix|pct)") || text.equals("width=3");
                int position = !cut ? length : text.startsWith("width") ? 6 : 5;
                rows.append("run \"").append(text).append("\" form ").append(position).append('\n');
            }
        }
        Sentence.holds("Text", "or at the length of the text if it ends too early", rows + """
            execute() !IllegalArgumentException
            errorPosition() 0
            # sixty characters that end too early
            run "width=30;width=30;width=30;width=30;width=30;width=30;width=" form 60
            run "width=30;width=30;width=30;width=30;width=30;row;gap=1;pad=1" form 60
            """);
    }

    private static void numbersOutOfRange() {
        Sentence.holds("Text", "at the first digit of a number that is out of range", """
            run "width=7;" form 6
            run "width=37;" form 6
            run "width=99;" form 6
            run "width=08;" form 6
            run "gap=3;" form 4
            run "gap=99;" form 4
            run "pad=3;" form 4
            run "pad=10;" form 4
            run "col0=fix0;" form 8
            run "col0=fix37;" form 8
            run "col0=fix99;" form 8
            run "col0=pct0;" form 8
            run "col0=pct00;" form 8
            run "pic01=0x1;" form 6
            run "pic01=21x1;" form 6
            run "pic01=99x1;" form 6
            run "pic01=9x0;" form 8
            run "pic01=10x21;" form 9
            run "pic01=10x99;" form 9
            # before the sign behind it is looked at
            run "width=7!" form 6
            run "width=99" form 6
            run "pic01=21!" form 6
            """);
    }

    private static void columnsAndSpans() {
        for (int columns = 1; columns <= 4; columns++) {
            Sentence.holds("Text", "at the digit of a column that does not exist", """
                setColumns(%1$d) 3
                run "col0=fix9;col%2$d=fix9;" 2
                run "col%1$d=fix9;" form 3
                run "col9=fix9;" form 3
                run "col%1$d" form 3
                run "row;cell%2$d1p=a;row;pic%2$d1=1x1;" 4
                run "row;cell%1$d1p=a;" form 8
                run "row;cell91p=a;" form 8
                run "row;cell%1$d0p=a;" form 8
                run "row;pic%1$d1=1x1;" form 7
                run "row;pic91=1x1;" form 7
                """.formatted(columns, columns - 1));
            Sentence.holds("Text", "or of a span that is 0 or reaches beyond the last column", """
                setColumns(%1$d) 3
                run "row;cell0%1$dp=a;row;pic0%1$d=1x1;" 4
                run "row;cell00p=a;" form 9
                run "row;cell0%3$dp=a;" form 9
                run "row;cell09p=a;" form 9
                run "row;cell%2$d1p=a;" 2
                run "row;cell%2$d2p=a;" form 9
                run "row;cell%2$d9p=a;" form 9
                run "row;cell%2$d0" form 9
                run "row;pic00=1x1;" form 8
                run "row;pic0%3$d=1x1;" form 8
                run "row;pic%2$d2=1x1;" form 8
                run "row;pic%2$d1=1x1;" 2
                """.formatted(columns, columns - 1, columns + 1));
        }
    }

    private static void orderOfCommands() {
        Sentence.holds("Text", "the first form error is reported at its position", """
            # of two errors the left one
            run "width=7;gap=3;" form 6
            run "cell99p=a;" form 4
            run "cell09P=A;" form 5
            run "pic01=0x0;" form 6
            run "rows;row!" form 0
            run "row!rows;" form 3
            """);
        Sentence.holds("Text", "If there is no form error, the commands are executed in their order", """
            run "gap=0;gap=1;gap=2;" 3
            setMeasure(1, 1) 2
            run "col0=fix9;col0=pct9;col0=auto;" 3
            setColumn(0, 0, 0) 0
            run "row;pic01=1x1;pic11=2x2;row;pic01=3x3;" 5
            property(0, 6) 1
            property(1, 6) 2
            property(2, 6) 3
            property(2, 0) 1
            # a form error behind a command that cannot be executed
            run "pic01=1x1;row" form 13
            run "row;row;row;row;row;row;" execution 16
            count(1) 2
            """);
    }

    private static void executionErrors() {
        Sentence.holds("Text", "a seventh row", """
            run "row;row;row;row;row;row;row;" execution 24
            run "row;row;row;row;row;row;" 6
            run "row;" execution 0
            run "gap=2;row;" execution 6
            """);
        Sentence.holds("Text", "a cell without a row", """
            run "cell01p=a;" execution 0
            run "pic01=1x1;" execution 0
            run "gap=1;pic01=1x1;row;" execution 6
            run "row;pic01=1x1;" 2
            """);
        Sentence.holds("Text", "a cell that would occupy an occupied column", """
            run "row;pic11=1x1;" 2
            run "pic11=1x1;" execution 0
            run "cell02p=a;" execution 0
            run "cell12p=a;" execution 0
            run "cell03p=a;" execution 0
            run "pic01=1x1;pic21=1x1;cell01p=a;" execution 20
            run "pic01=1x1;pic21=1x1;" 2
            # only the last row counts
            run "row;cell03p=a;" 2
            """);
        Sentence.holds("Text", "or a seventeenth cell", TableSentences.SIXTEEN_CELLS + """
            run "row;pic01=1x1;" execution 4
            run "row;cell01p=a;" execution 4
            removeCell(0) 15
            run "row;cell01p=a;cell11p=a;" execution 14
            run "row;cell01p=a;" 2
            run "pic11=1x1;" execution 0
            """);
        Sentence.holds("Text", "reported at the first letter of the first command that cannot be executed", """
            # two that cannot, and one that cannot after one that can
            run "gap=1;pic01=1x1;row;row;row;row;row;row;row;" execution 6
            run "row;row;row;row;row;row;pad=1;row;row;" execution 30
            run "row;cell01p=a;cell01p=b;cell01p=c;" execution 14
            run "pic01=1x1;pic01=1x1;" execution 0
            count(1) 0
            """);
    }

    private static void clips() {
        Sentence.holds("Clips", "There are 2 clips, numbered 0 and 1", """
            makeClip(0, 0, 1) 1
            makeClip(1, 0, 1) 1
            makeClip(<0..1>, 0, 1) !IndexOutOfBoundsException
            run "row;cell01p=a;" 2
            copyTo(0, 0, 0) 0
            copyTo(1, 0, 0) 0
            copyTo(<0..1>, 0, 0) !IndexOutOfBoundsException
            paste(0, 0, 0, 1) 1
            paste(1, 0, 0, 2) 2
            paste(<0..1>, 0, 0, 1) !IndexOutOfBoundsException
            """);
        Sentence.holds("Clips", "not made at first", """
            run "row;cell01p=a;" 2
            copyTo(0, 0, 0) !IllegalStateException
            copyTo(1, 0, 0) !IllegalStateException
            paste(0, 0, 0, 1) !NoSuchElementException
            paste(1, 0, 0, 1) !NoSuchElementException
            # each is made on its own
            makeClip(1, 0, 1) 1
            copyTo(0, 0, 0) !IllegalStateException
            copyTo(1, 0, 0) 0
            """);
        Sentence.holds("Clips", "has 0 to 3 places", """
            run "row;cell01p=a;" 2
            makeClip(0, 0, 0) 0
            copyTo(0, 0, 0) !NoSuchElementException
            paste(0, 0, 0, 1) !NoSuchElementException
            makeClip(0, 0, 1) 1
            copyTo(0, 0, 0) 0
            copyTo(0, <0..0>, 0) !NoSuchElementException
            makeClip(0, 0, 3) 3
            copyTo(0, 2, 0) 0
            copyTo(0, <0..2>, 0) !NoSuchElementException
            paste(0, <0..2>, 0, 1) !NoSuchElementException
            makeClip(0, 0, <0..3>) !IllegalArgumentException
            """);
        Sentence.holds("Clips", "each empty at first", """
            run "row;cell01p=a;" 2
            makeClip(0, 0, 3) 3
            paste(0, 0, 0, 1) !NoSuchElementException
            paste(0, 1, 0, 1) !NoSuchElementException
            paste(0, 2, 0, 1) !NoSuchElementException
            copyTo(0, 1, 0) 0
            paste(0, 0, 0, 1) !NoSuchElementException
            paste(0, 2, 0, 1) !NoSuchElementException
            paste(0, 1, 0, 1) 1
            """);
        Sentence.holds("Clips", "whose kind is the kind of the clip or a subkind of it", ClipSentences.copiesIntoAllClips());
    }
}
