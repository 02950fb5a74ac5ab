import java.io.IOException;
import java.lang.reflect.Method;
import java.lang.reflect.Modifier;
import java.net.URL;
import java.net.URLClassLoader;
import java.nio.file.Files;
import java.nio.file.Path;
import java.util.List;
import java.util.regex.Matcher;
import java.util.regex.Pattern;
import java.util.stream.Stream;
import javax.tools.ToolProvider;

/** README.md tells the truth: its run of calls answers as it says, and it names every call and every test. */
public final class ReadmeTest {
    private static int answers = 0;

    public static void main(String[] args) throws IOException, ReflectiveOperationException {
        String page = Files.readString(Path.of("README.md"));
        theRunAnswersAsItSays(page);
        everyCallIsInTheTable(page);
        everyTestIsNamed(page);
        Check.finish("ReadmeTest");
    }

    /** Called by the page's own text, in which each call with an answer behind it was put in here. */
    public static void due(String call, Object got, String due) {
        answers++;
        Check.that("README.md: " + call + " answered " + got + ", it says " + due, due.equals(String.valueOf(got)));
    }

    private static void theRunAnswersAsItSays(String page) throws IOException, ReflectiveOperationException {
        Matcher block = Pattern.compile("(?s)\n```java\n(.*?)\n```\n").matcher(page);
        Check.that("there is a run of calls", block.find());
        String text = block.group(1);
        String asked = withAnswersAsked(text);
        Path place = Files.createTempDirectory("readme");
        Path source = Files.writeString(place.resolve("Harbour.java"), asked);
        int wrong = ToolProvider.getSystemJavaCompiler().run(null, null, null,
            "-cp", System.getProperty("java.class.path"), "-d", place.toString(), source.toString());
        Check.same("javac of the run in README.md", wrong, 0);
        if (wrong == 0) {
            play(place);
            int told = 0;
            for (String line : text.split("\n")) {
                told += line.contains("; // ") ? 1 : 0;
            }
            Check.same("answers asked for", answers, told);
        }
        removeAll(place);
    }

    /** A call may go over several lines; its answer stands behind the last. */
    private static String withAnswersAsked(String text) {
        Matcher call = Pattern.compile("(?m)^        ((?:lamp\\.|tell\\()[^;]*(?:\"[^\"]*\"[^;\"]*)*); // (-?\\d+|true|false)\\b.*$")
            .matcher(text);
        StringBuilder asked = new StringBuilder();
        while (call.find()) {
            String name = call.group(1).replaceAll("\\s+", " ").replace("\"", "'");
            call.appendReplacement(asked, Matcher.quoteReplacement(
                "ReadmeTest.due(\"" + name + "\", " + call.group(1) + ", \"" + call.group(2) + "\");"));
        }
        return call.appendTail(asked).toString();
    }

    private static void play(Path place) throws IOException, ReflectiveOperationException {
        try (URLClassLoader loader = new URLClassLoader(new URL[] {place.toUri().toURL()})) {
            Method main = loader.loadClass("Harbour").getMethod("main", String[].class);
            main.invoke(null, (Object) new String[0]);
        }
    }

    private static void removeAll(Path place) throws IOException {
        try (Stream<Path> files = Files.list(place)) {
            for (Path file : files.toList()) {
                Files.delete(file);
            }
        }
        Files.delete(place);
    }

    private static void everyCallIsInTheTable(String page) {
        for (Method method : KiteLamp.class.getDeclaredMethods()) {
            if (!Modifier.isPublic(method.getModifiers())) {
                continue;
            }
            Matcher row = Pattern.compile("(?m)^\\| `" + method.getName() + "\\(([^)]*)\\)` \\|").matcher(page);
            boolean found = row.find();
            Check.that(method.getName() + " has a row in README.md", found);
            if (found) {
                int arguments = row.group(1).isEmpty() ? 0 : row.group(1).split(", ").length;
                Check.same("arguments of " + method.getName() + " in README.md", arguments, method.getParameterCount());
            }
        }
    }

    private static void everyTestIsNamed(String page) throws IOException {
        Check.that("README.md says by which command tests are run", page.contains("```sh\n.ci/run\n```"));
        List<String> names;
        try (Stream<Path> files = Files.list(Path.of("src/test/java"))) {
            names = files.map(file -> file.getFileName().toString()).filter(name -> name.endsWith("Test.java")).toList();
        }
        for (String name : names) {
            Check.that(name + " is named in README.md", page.contains("\n| " + name.replace(".java", "") + " |"));
        }
    }
}
