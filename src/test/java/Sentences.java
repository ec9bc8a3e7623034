/** A check whose answers each stand under a sentence of the document. */
final class Sentences extends Check {
    static final String TERMS = "Terms";

    private final Document document = Document.read();
    private String now = "";
    private int answers = 1;

    /** What follows tests these words of the terms. */
    void says(String words) {
        says(TERMS, words);
    }

    /** What follows tests these words of a promise. */
    void says(int promise, String words) {
        says("Promise " + promise, words);
    }

    void says(String section, String words) {
        endSentence();
        now = section + ", \"" + words + "\": ";
        answers = 0;
        if (document.isRead()) {
            must("the document says so, once", document.quote(section, words));
        }
    }

    private void endSentence() {
        must("it has a test", answers > 0);
    }

    /** Of the tests themselves: it is no answer of the class that this looks at. */
    private void must(String what, boolean holds) {
        super.due(now + what, holds ? 1 : 0, 1);
    }

    @Override
    void due(String call, long got, long want) {
        answers++;
        super.due(now + call, got, want);
    }

    /** The map is and goes on as one that was filled alike and asked nothing since. */
    void asBefore(TouchMap map, String tape) {
        String got = Bench.look(map);
        String want = Bench.look(Bench.full(tape));
        due("refused calls left all as it was (" + got + " for " + want + ")", got.equals(want), true);
    }

    @Override
    void end() {
        endSentence();
        now = "";
        if (document.isRead()) {
            for (String rest : document.unquoted()) {
                must("a test quotes \"" + rest + "\"", false);
            }
        }
        super.end();
    }

    /** Values outside of least .. most: next to it, as far as can be, and some that a byte or a short would hold as least. */
    static int[] beyond(int least, int most) {
        return new int[] {least - 1, most + 1, Integer.MIN_VALUE, Integer.MAX_VALUE, least + 65536, least - 65536,
            Integer.MIN_VALUE + least + 1, most < 256 ? least + 256 : most + 256, least - 256};
    }
}
