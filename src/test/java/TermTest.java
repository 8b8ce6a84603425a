/**
 * The document from its first line down to the promises, sentence by sentence: each word of it stands in a quote, and
 * behind each quote something is asked whose answer follows from it.
 */
public final class TermTest {
    public static void main(String[] args) {
        Check check = new Check();
        Doc doc = new Doc();
        new TermText(check, doc).run();
        new TermCount(check, doc).run();
        new TermChance(check, doc).run();
        new TermActs(check, doc).run();
        check.due("words that no test quotes", doc.unquotedTerms(), "");
        check.finish("terms");
    }
}
