/** Each sentence of the document that names a boundary case: the last value that is allowed, the first that is not. */
public final class EdgeTest {
    public static void main(String[] args) {
        Check check = new Check();
        Doc doc = new Doc();
        new EdgeText(check, doc).run();
        new EdgeGrid(check, doc).run();
        new EdgeCount(check, doc).run();
        new EdgeChance(check, doc).run();
        new EdgeKept(check, doc).run();
        doc.finish(check);
        check.finish("edges");
    }
}
