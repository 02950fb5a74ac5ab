import java.io.IOException;
import java.nio.file.Files;
import java.nio.file.Path;
import java.util.regex.Matcher;
import java.util.regex.Pattern;

/** Each test that BOUNDARIES.md names is there and is called, and each promise has its row. */
public final class BoundariesTest {
    public static void main(String[] args) throws IOException {
        String table = Files.readString(Path.of("src/test/BOUNDARIES.md"));
        Matcher matcher = Pattern.compile("`(\\w+Test)\\.(\\w+)`").matcher(table);
        while (matcher.find()) {
            String text = Files.readString(Path.of("src/test/java/" + matcher.group(1) + ".java"));
            Check.that(matcher.group() + " is there", text.contains("private static void " + matcher.group(2) + "()"));
            Check.that(matcher.group() + " is called", text.contains("\n        " + matcher.group(2) + "();\n"));
        }
        for (int promise = 1; promise <= 23; promise++) {
            Check.that("promise " + promise + " has a row with a test",
                Pattern.compile("(?m)^\\| " + promise + " \\|[^|]*\\| `").matcher(table).find());
        }
        Check.finish("BoundariesTest");
    }
}
