import java.io.ByteArrayOutputStream;
import java.io.IOException;
import java.io.PrintStream;
import java.lang.reflect.Field;
import java.lang.reflect.Modifier;
import java.net.URL;
import java.net.URLClassLoader;
import java.nio.file.Files;
import java.nio.file.Path;
import java.util.Comparator;
import java.util.List;
import java.util.Set;
import java.util.TreeSet;
import java.util.regex.Matcher;
import java.util.regex.Pattern;
import java.util.stream.Stream;
import javax.tools.ToolProvider;

/** README.md: it names every call, constant and test, and its example prints what it says. */
public final class ReadmeTest {
    private static int wrong = 0;

    public static void main(String[] args) throws IOException, ReflectiveOperationException {
        String page = Files.readString(Path.of("README.md"));
        String source = Files.readString(Path.of(args[0]));
        calls(page, source);
        constants(page);
        tests(page);
        texts(page);
        example(page, Path.of(args[0]));
        System.out.println(wrong == 0 ? "the page is right" : wrong + " things are wrong on the page");
        System.exit(wrong == 0 ? 0 : 1);
    }

    private static void must(boolean holds, String what) {
        if (!holds) {
            wrong++;
            System.out.println("wrong: " + what);
        }
    }

    private static void calls(String page, String source) {
        Matcher head = Pattern.compile("\n    public int (\\w+)\\(([^)]*)\\)").matcher(source);
        int found = 0;
        while (head.find()) {
            found++;
            String call = head.group(1) + "(" + head.group(2).replaceAll("\\bint ", "") + ")";
            must(page.contains("\n| `" + call + "` | "), call + " has a row");
        }
        must(found == 41, "41 calls were found: " + found);
        must(Pattern.compile("\n\\| `\\w+\\([^`]*\\)` \\| ").matcher(page).results().count() == found,
                "there are no other calls on the page");
    }

    private static void constants(String page) {
        for (Field field : SmokeVotes.class.getDeclaredFields()) {
            if (Modifier.isPublic(field.getModifiers())) {
                must(page.contains("\n| `" + field.getName() + "` | "), field.getName() + " has a row");
            }
        }
    }

    private static void tests(String page) throws IOException {
        Set<String> there = new TreeSet<>();
        try (Stream<Path> files = Files.list(Path.of("src/test/java"))) {
            files.map(file -> file.getFileName().toString()).filter(name -> name.endsWith("Test.java"))
                    .forEach(name -> there.add(name.substring(0, name.length() - 5)));
        }
        Set<String> named = new TreeSet<>();
        Matcher row = Pattern.compile("\n\\| `(\\w+Test)` \\| ").matcher(page);
        while (row.find()) {
            named.add(row.group(1));
        }
        must(named.equals(there), "the tests are " + there + ", the page names " + named);
    }

    private static void texts(String page) {
        Matcher text = Pattern.compile("`((?:sway|fee|fine) [^`]*)`").matcher(page);
        int found = 0;
        while (text.find()) {
            found++;
            must(Edges.tellText(new SmokeVotes(), text.group(1)) == 0, text.group(1) + " is a text");
        }
        must(found >= 3, "there are texts on the page");
    }

    // ---- the example

    private static void example(String page, Path source) throws IOException, ReflectiveOperationException {
        String code = block(page, "java", "public final class Try");
        String due = block(page, "text", "");
        Path room = Files.createTempDirectory("try");
        try {
            Path file = room.resolve("Try.java");
            Files.writeString(file, code);
            int fault = ToolProvider.getSystemJavaCompiler().run(null, null, null, "-d", room.toString(),
                    source.toString(), file.toString());
            must(fault == 0, "the example compiles");
            if (fault == 0) {
                String printed = printed(room);
                must(printed.equals(due), "the example prints\n" + printed);
            }
        } finally {
            try (Stream<Path> all = Files.walk(room)) {
                for (Path path : (Iterable<Path>) all.sorted(Comparator.reverseOrder())::iterator) {
                    Files.delete(path);
                }
            }
        }
    }

    /** The first block of a language on the page that begins so. */
    private static String block(String page, String language, String begin) {
        Matcher block = Pattern.compile("\n```" + language + "\n(" + Pattern.quote(begin) + ".*?)```\n", Pattern.DOTALL)
                .matcher(page);
        boolean found = block.find();
        must(found, "there is a block of " + language);
        return found ? block.group(1) : "";
    }

    private static String printed(Path room) throws IOException, ReflectiveOperationException {
        PrintStream out = System.out;
        ByteArrayOutputStream bytes = new ByteArrayOutputStream();
        // Without a parent that knows the tests' own SmokeVotes: the example runs on what it was compiled with.
        try (URLClassLoader loader = new URLClassLoader(new URL[] {room.toUri().toURL()},
                ClassLoader.getPlatformClassLoader());
                PrintStream caught = new PrintStream(bytes, true)) {
            System.setOut(caught);
            loader.loadClass("Try").getMethod("main", String[].class).invoke(null, (Object) new String[0]);
        } finally {
            System.setOut(out);
        }
        return String.join("\n", List.of(bytes.toString().split("\\R"))) + "\n";
    }
}
