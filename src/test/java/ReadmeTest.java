import java.io.IOException;
import java.lang.reflect.Method;
import java.lang.reflect.Modifier;
import java.net.URL;
import java.net.URLClassLoader;
import java.nio.file.Files;
import java.nio.file.Path;
import java.util.ArrayList;
import java.util.List;
import java.util.Set;
import java.util.TreeSet;
import java.util.regex.Matcher;
import java.util.regex.Pattern;
import java.util.stream.Stream;
import javax.tools.ToolProvider;

/**
 * README.md: the calls that it shows answer as it says, and the tests that it names are those that ran,
 * by the command that it names. It is run by .ci/run alone, which tells it its own path and, of each
 * test that it ran, the name.
 */
public final class ReadmeTest {
    private static final Path TESTS = Path.of("src/test/java"), SHARED = Path.of("../shared/tests");
    private static final Pattern MAKING = Pattern.compile("LeastFrames x = new LeastFrames\\(\\);");
    private static final Pattern CALL = Pattern.compile("(x\\.(\\w+)\\([^;]*\\));\\s*// ([^:]+)(: .*)?");

    public static void main(String[] args) throws Exception {
        String page = Files.readString(Path.of("README.md"));
        Due.due("README has a use, then tests", page.indexOf("\n## Use\n") < page.indexOf("\n## Tests\n") ? 1 : 0, 1);
        use(blocks(page, "java"));
        if (args.length == 0) {
            Due.due("told by .ci/run which tests ran", 0, 1);
        } else {
            command(blocks(page, "sh"), Path.of(args[0]));
            tests(page.substring(page.indexOf("\n## Tests\n")), List.of(args).subList(1, args.length));
        }
        files(page);
        Due.end();
    }

    /** All lines within fences of a kind, in order. */
    private static List<String> blocks(String page, String kind) {
        List<String> lines = new ArrayList<>();
        boolean inside = false;
        for (String line : page.split("\n")) {
            if (line.startsWith("```")) {
                inside = line.equals("```" + kind);
            } else if (inside && !line.isBlank()) {
                lines.add(line.trim());
            }
        }
        return lines;
    }

    // ---- the use of the class

    /** The lines are compiled as they stand, each answer beside the one that the page tells. */
    private static void use(List<String> lines) throws Exception {
        List<String> calls = new ArrayList<>();
        Set<String> shown = new TreeSet<>();
        StringBuilder body = new StringBuilder();
        for (String line : lines) {
            Matcher call = CALL.matcher(line);
            if (call.matches()) {
                calls.add(call.group(1));
                shown.add(call.group(2));
                body.append("told.add(new long[] {").append(call.group(1)).append(", ").append(call.group(3)).append("});\n");
            } else {
                Due.due("README: a call with its answer, or a new object: " + line, MAKING.matcher(line).matches() ? 1 : 0, 1);
                body.append(line).append('\n');
            }
        }
        List<long[]> told = run(body.toString());
        Due.due("README: calls that were run", told.size(), calls.size());
        for (int i = 0; i < told.size(); i++) {
            Due.due("README, call " + (i + 1) + ": " + calls.get(i), told.get(i)[0], told.get(i)[1]);
        }
        for (Method method : LeastFrames.class.getDeclaredMethods()) {
            if (Modifier.isPublic(method.getModifiers())) {
                Due.due("README shows " + method.getName(), shown.contains(method.getName()) ? 1 : 0, 1);
            }
        }
    }

    @SuppressWarnings("unchecked")
    private static List<long[]> run(String body) throws Exception {
        Path room = Files.createTempDirectory("readme");
        Path source = room.resolve("ReadmeUse.java");
        Path compiled = room.resolve("ReadmeUse.class");
        try {
            Files.writeString(source, "import java.util.*;\npublic final class ReadmeUse {\n"
                + "public static List<long[]> told() {\nList<long[]> told = new ArrayList<>();\n" + body + "return told;\n}\n}\n");
            int failed = ToolProvider.getSystemJavaCompiler().run(null, null, null,
                "-cp", System.getProperty("java.class.path"), "-d", room.toString(), source.toString());
            Due.due("README: javac of its calls", failed, 0);
            if (failed != 0) {
                return List.of();
            }
            try (URLClassLoader loader = new URLClassLoader(new URL[] {room.toUri().toURL()})) {
                return (List<long[]>) loader.loadClass("ReadmeUse").getMethod("told").invoke(null);
            }
        } finally {
            Files.deleteIfExists(source);
            Files.deleteIfExists(compiled);
            Files.deleteIfExists(room);
        }
    }

    // ---- its tests

    private static void command(List<String> lines, Path script) throws IOException {
        Due.due("README: commands " + lines, lines.size(), 1);
        for (String line : lines) {
            Path named = Path.of(line);
            Due.due("README: its command can be run: " + line, Files.isExecutable(named) ? 1 : 0, 1);
            boolean same = Files.exists(named) && Files.isSameFile(named, script);
            Due.due("README: its command is what runs now: " + line, same ? 1 : 0, 1);
        }
    }

    private static void tests(String section, List<String> ran) throws IOException {
        Set<String> own = new TreeSet<>(), shared = new TreeSet<>();
        for (String name : ran) {
            boolean isShared = name.startsWith(SHARED + "/");
            (isShared ? shared : own).add(isShared ? name.substring(SHARED.toString().length() + 1) : name);
        }
        Due.due("tests that ran, each once: " + ran, ran.size(), own.size() + shared.size());
        Set<String> named = new TreeSet<>();
        for (String word : quoted(section)) {
            if (word.matches("\\w+Test")) {
                named.add(word);
            }
        }
        same("README names the tests that ran", named, own);
        same("every test of the project ran", sources(TESTS, "Test.java"), own);
        same("every shared test ran", sources(SHARED, ".java"), shared);
        Due.due("README names " + SHARED, quoted(section).contains(SHARED.toString()) ? 1 : 0, 1);
    }

    /** The classes among the files of a directory whose names end so. */
    private static Set<String> sources(Path directory, String ending) throws IOException {
        Set<String> names = new TreeSet<>();
        try (Stream<Path> files = Files.list(directory)) {
            for (String file : files.map(f -> f.getFileName().toString()).toList()) {
                if (file.endsWith(ending)) {
                    names.add(file.substring(0, file.length() - ".java".length()));
                }
            }
        }
        return names;
    }

    private static void same(String what, Set<String> left, Set<String> right) {
        Due.due(what + ": " + left + " and " + right, left.equals(right) ? 1 : 0, 1);
    }

    // ---- whatever else it names

    /** A path is there, and what is named like a class is the class or one of its tests. */
    private static void files(String page) {
        for (String word : quoted(page)) {
            if (word.contains("/")) {
                Due.due("README: there is " + word, Files.exists(Path.of(word)) ? 1 : 0, 1);
            } else if (word.matches("[A-Z]\\w*[a-z]\\w*")) {
                Due.due("README: there is a class " + word, Files.exists(TESTS.resolve(word + ".java")) ? 1 : 0, 1);
            }
        }
    }

    private static List<String> quoted(String text) {
        List<String> words = new ArrayList<>();
        Matcher quote = Pattern.compile("(?<!`)`([^`\n]+)`(?!`)").matcher(text);
        while (quote.find()) {
            words.add(quote.group(1));
        }
        return words;
    }
}
