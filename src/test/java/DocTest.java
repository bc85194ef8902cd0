/** The document read sentence by sentence: every one has a test of its own, with the bounds that it names. */
public final class DocTest {
    private DocTest() {
    }

    public static void main(String[] args) {
        DocTexts.all();
        DocActs.all();
        DocReckon.all();
        DocTold.all();
        Doc.isQuotedWhole();
        Due.finish("DocTest");
    }
}
