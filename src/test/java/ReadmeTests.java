import java.io.IOException;
import java.lang.reflect.Method;
import java.lang.reflect.Modifier;
import java.nio.charset.StandardCharsets;
import java.nio.file.DirectoryStream;
import java.nio.file.Files;
import java.nio.file.Path;
import java.util.Set;
import java.util.TreeSet;
import java.util.regex.Matcher;
import java.util.regex.Pattern;

/** Looks whether what README.md says is so: the example's answers, the calls, the classes and the tests. */
public final class ReadmeTests {
    private static final Path TESTS = Path.of("src/test/java");

    public static void main(String[] args) throws Exception {
        String readme = read(Path.of("README.md"));
        example(readme);
        calls(readme);
        classes(readme);
        tests(readme);
        objects();
        Check.end("ReadmeTests");
    }

    private static String read(Path file) throws IOException {
        return Files.readString(file, StandardCharsets.UTF_8);
    }

    private static Set<String> found(String pattern, String text) {
        Set<String> all = new TreeSet<>();
        Matcher m = Pattern.compile(pattern).matcher(text);
        while (m.find()) {
            all.add(m.group(1));
        }
        return all;
    }

    private static void example(String readme) throws Exception {
        Matcher code = Pattern.compile("(?s)```java\n(.*?)```").matcher(readme);
        Check.due("README: an example", code.find() ? 1 : 0, 1);
        String[] lines = code.group(1).split("\n");
        EachSeesTheNext x = new EachSeesTheNext();
        int asked = 0;
        for (String line : lines) {
            Matcher told = Pattern.compile("\"(.*)\"\\.toCharArray").matcher(line);
            if (told.find()) {
                for (char c : told.group(1).toCharArray()) {
                    x.letter(c);
                }
            }
            Matcher call = Pattern.compile("^x\\.(\\w+)\\(([-\\d, ]*)\\);\\s*// (-?\\d+): ").matcher(line);
            if (call.find()) {
                asked++;
                Check.due("README: " + line, answer(x, call.group(1), call.group(2)), Long.parseLong(call.group(3)));
            }
        }
        // The first three lines and the bracket behind them ask nothing.
        Check.due("README: each line has its answer", asked, lines.length - 4);
    }

    private static long answer(EachSeesTheNext x, String name, String arguments) throws Exception {
        String[] words = arguments.isEmpty() ? new String[0] : arguments.split(", ");
        Object[] args = new Object[words.length];
        for (int i = 0; i < words.length; i++) {
            args[i] = Integer.valueOf(words[i]);
        }
        for (Method m : EachSeesTheNext.class.getDeclaredMethods()) {
            if (m.getName().equals(name) && Modifier.isPublic(m.getModifiers())) {
                return ((Number) m.invoke(x, args)).longValue();
            }
        }
        throw new IllegalStateException("README.md asks " + name);
    }

    private static void calls(String readme) {
        Set<String> face = new TreeSet<>();
        for (Method m : EachSeesTheNext.class.getDeclaredMethods()) {
            if (Modifier.isPublic(m.getModifiers())) {
                face.add(m.getName() + m.getParameterCount());
            }
        }
        Set<String> told = new TreeSet<>();
        Matcher m = Pattern.compile("`(\\w+)\\(([\\w, ]*)\\)`").matcher(readme);
        int times = 0;
        while (m.find()) {
            times++;
            told.add(m.group(1) + (m.group(2).isEmpty() ? 0 : m.group(2).split(", ").length));
        }
        Check.same("README: the calls", told.toString(), face.toString());
        Check.due("README: each once", times, face.size());
    }

    private static void classes(String readme) {
        Set<String> inside = new TreeSet<>();
        inside.add("EachSeesTheNext");
        for (Class<?> c : EachSeesTheNext.class.getDeclaredClasses()) {
            inside.add(c.getSimpleName());
        }
        String built = readme.substring(readme.indexOf("## How it is built"), readme.indexOf("## Tests"));
        Check.same("README: the classes", found("(?m)^- `(\\w+)`: ", built).toString(), inside.toString());
    }

    private static void tests(String readme) throws IOException {
        Set<String> files = new TreeSet<>();
        Set<String> helpers = new TreeSet<>();
        try (DirectoryStream<Path> all = Files.newDirectoryStream(TESTS, "*.java")) {
            for (Path file : all) {
                boolean runs = read(file).contains("public static void main(");
                (runs ? files : helpers).add(file.getFileName().toString().replace(".java", ""));
            }
        }
        String tests = readme.substring(readme.indexOf("## Tests"));
        Check.same("README: the tests", found("(?m)^- `(\\w+)`: ", tests).toString(), files.toString());
        Matcher loop = Pattern.compile("for name in ([\\w ]+);").matcher(read(Path.of(".ci/run")));
        Check.due(".ci/run: names tests", loop.find() ? 1 : 0, 1);
        Check.same(".ci/run: runs them all", new TreeSet<>(Set.of(loop.group(1).split(" "))).toString(), files.toString());
        for (String helper : helpers) {
            Check.due("README: " + helper, tests.contains("`" + helper + "`") ? 1 : 0, 1);
        }
    }

    // "All rows are made in constructors: no call makes an object."
    private static void objects() throws IOException {
        String code = read(Path.of("src/main/java/EachSeesTheNext.java")).replaceAll("(?s)/\\*.*?\\*/", "")
            .replaceAll("//[^\n]*", "");
        Set<String> made = found("(?m)^(.*\\bnew\\b.*)$", code);
        Check.due("README: objects are made", made.isEmpty() ? 0 : 1, 1);
        for (String line : made) {
            Check.due("README: made with its owner: " + line,
                line.matches(" +(private )?final [\\w\\[\\]]+ \\w+ = new .*;") ? 1 : 0, 1);
        }
    }
}
