import java.io.IOException;
import java.nio.file.Path;

/** Runs all tests of the project; the first argument is the path of DraftCommon.java. */
public final class AllTests {
    private AllTests() {
    }

    public static void main(String[] args) throws IOException {
        Path source = Path.of(args.length > 0 ? args[0] : "src/main/java/DraftCommon.java");
        FaceTest.run();
        LanguageTest.run(source);
        CopyTest.run();
        DraftTest.run();
        ReviewTest.run();
        IssueTest.run();
        CommentTest.run();
        CopyEdges.run();
        MergeEdges.run();
        DraftEdges.run();
        ReviewEdges.run();
        IssueEdges.run();
        CommentEdges.run();
        ModelTest.run();
        WildTest.run();
        Check.close();
    }
}
