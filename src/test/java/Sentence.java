import java.util.HashSet;
import java.util.Set;

/** Rows of calls that would fail if one sentence of the document did not hold; the words of the sentence are its name. */
final class Sentence {
    private static final Set<String> CHECKED = new HashSet<>();

    private Sentence() {
    }

    /** The words must stand in one sentence of the section, and in no other one. */
    static void holds(String section, String words, String rows) {
        CHECKED.add(section + ": " + Document.sentenceWith(section, words));
        Rows.check(section + ", \"" + words + "\"", rows);
    }

    /** Fails also if a sentence of the document has no test. */
    static void end() {
        int number = 0;
        for (String section : Document.sections()) {
            for (String sentence : Document.sentences(section)) {
                number++;
                if (!CHECKED.contains(section + ": " + sentence)) {
                    Rows.due(section + ", \"" + sentence + "\"", "no test", "a test");
                }
            }
        }
        System.out.println(number + " sentences");
        Rows.end();
    }
}
