import java.io.IOException;
import java.nio.file.Path;

/** Runs all tests of the project; the first argument is the path of DraftCommon.java. */
public final class AllTests {
    /** Far more than the tests take, so that a call that does not end fails, too. */
    private static final long MOST_SECONDS = 400;

    private AllTests() {
    }

    public static void main(String[] args) throws IOException {
        endAtLast();
        Path source = Path.of(args.length > 0 ? args[0] : "src/main/java/DraftCommon.java");
        FaceTest.run();
        LanguageTest.run(source);
        ReadmeTest.run(source);
        TermsTest.run();
        CopyTest.run();
        DraftTest.run();
        ReviewTest.run();
        IssueTest.run();
        CommentTest.run();
        CopyEdges.run();
        MergeEdges.run();
        DraftEdges.run();
        ReviewEdges.run();
        IssueEdges.run();
        CommentEdges.run();
        ModelTest.run();
        WildTest.run();
        Check.close();
    }

    private static void endAtLast() {
        Thread watch = new Thread(() -> {
            try {
                Thread.sleep(1000 * MOST_SECONDS);
            } catch (InterruptedException e) {
                return;
            }
            System.out.println("WRONG: the tests did not end in " + MOST_SECONDS + " seconds");
            Runtime.getRuntime().halt(1);
        });
        watch.setDaemon(true);
        watch.start();
    }
}
