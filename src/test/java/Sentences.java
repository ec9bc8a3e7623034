/** A check whose answers each stand under a sentence of the document. */
final class Sentences extends Check {
    static final String TERMS = "Terms";

    private final Document document = Document.read();
    private String now = "";
    private int answers = 1;

    /** What follows tests these words of the terms. */
    void says(String words) {
        says(TERMS, words);
    }

    /** What follows tests these words of a promise. */
    void says(int promise, String words) {
        says("Promise " + promise, words);
    }

    void says(String section, String words) {
        endSentence();
        now = section + ", \"" + words + "\": ";
        answers = 0;
        if (document.isRead() && !document.quote(section, words)) {
            super.due(now + "how often the document says so (2: not just once)", 2, 1);
        }
    }

    private void endSentence() {
        super.due(now + "it has a test", answers > 0, true);
    }

    @Override
    void due(String call, long got, long want) {
        answers++;
        super.due(now + call, got, want);
    }

    @Override
    void due(String call, boolean got, boolean want) {
        due(call, got ? 1 : 0, want ? 1 : 0);
    }

    /** The map is and goes on as one that was filled alike and asked nothing since. */
    void asBefore(TouchMap map, String tape) {
        String got = Bench.look(map);
        String want = Bench.look(Bench.full(tape));
        due("refused calls left all as it was (" + got + " for " + want + ")", got.equals(want), true);
    }

    @Override
    void end() {
        endSentence();
        if (document.isRead()) {
            for (String rest : document.unquoted()) {
                super.due("tests of " + rest, 0, 1);
            }
        }
        super.end();
    }

    /** Values outside of least .. most: next to it, as far as can be, and some that a byte or a short would hold as least. */
    static int[] beyond(int least, int most) {
        return new int[] {least - 1, most + 1, Integer.MIN_VALUE, Integer.MAX_VALUE, least + 65536, least - 65536,
            Integer.MIN_VALUE + least + 1, most < 256 ? least + 256 : most + 256, least - 256};
    }
}
