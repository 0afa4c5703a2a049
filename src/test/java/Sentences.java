import java.io.IOException;

/** What tests by sentence share: which sentence it is about, new runs, and what is not quoted yet. */
final class Sentences {
    /** One copy of a LINK that is like others: both ENDS have KEY 1, PRIORITY 1. */
    static final String LIKE = "l1,1,1,1;";
    /** Numbers that no call has an own meaning for. */
    static final String[] FAR = {"MIN", "-5", "-4", "-3", "-2", "-1", "11", "12", "127", "1000", "MAX"};

    final Check check = new Check("SentenceTest");
    private final Document document;
    private String now = "";

    Sentences() throws IOException {
        document = new Document();
    }

    /** The sentence that the calls behind it are about; it must stand in the document just so. */
    void of(String section, String sentence) {
        now = section + ": " + sentence;
        check.holds("'" + now + "' stands in the document", document.quote(section, sentence));
    }

    Run first() {
        return new Run(check, now);
    }

    Run laid(String text) {
        return first().lay(text);
    }

    /** FAULT of a text; one that has a FAULT can't be laid. */
    void fault(String text, String want) {
        first().type(text).calls("fault() = " + want + (want.equals("NONE") ? "" : "; lay() = NO"));
    }

    void end() {
        for (String rest : document.notQuoted()) {
            check.holds("a test of its own for '" + rest + "'", false);
        }
        check.end();
    }
}
