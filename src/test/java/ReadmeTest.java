import java.io.ByteArrayOutputStream;
import java.io.IOException;
import java.io.PrintStream;
import java.nio.file.Files;
import java.nio.file.Path;

/** The example that README.md shows is the one that runs, and prints what README.md says. */
public final class ReadmeTest {
    public static void main(String[] args) throws IOException {
        String readme = Files.readString(Path.of("README.md"));
        String source = Files.readString(Path.of("src/test/java/Example.java"));
        Mills.due("the example's lines", source, block(readme, "java"));
        Mills.due("what the example prints", printed(), block(readme, "text"));
        Mills.finish();
    }

    /** What stands in README.md's first block of a kind. */
    private static String block(String readme, String kind) {
        String head = "```" + kind + "\n";
        int from = readme.indexOf(head) + head.length();
        int end = readme.indexOf("```\n", from);
        return readme.contains(head) && end >= 0 ? readme.substring(from, end) : "";
    }

    private static String printed() {
        PrintStream screen = System.out;
        ByteArrayOutputStream caught = new ByteArrayOutputStream();
        System.setOut(new PrintStream(caught));
        Example.main(new String[0]);
        System.out.flush();
        System.setOut(screen);
        return caught.toString();
    }
}
