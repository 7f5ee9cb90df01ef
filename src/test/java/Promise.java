/** Rows of calls for a promise of the document. */
final class Promise {
    private Promise() {
    }

    static void check(int number, String rows) {
        Rows.check("promise " + number, rows);
    }

    static void due(int number, String what, String answer, String due) {
        Rows.due("promise " + number + ": " + what, answer, due);
    }

    static void end() {
        Rows.end();
    }
}
