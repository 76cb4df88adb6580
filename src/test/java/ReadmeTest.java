import java.io.IOException;
import java.lang.reflect.Method;
import java.lang.reflect.Modifier;
import java.nio.file.DirectoryStream;
import java.nio.file.Files;
import java.nio.file.Path;
import java.util.regex.Matcher;
import java.util.regex.Pattern;

/** README.md tells nothing that the class does not do, and leaves no call and no test out. */
public final class ReadmeTest {
    private static final Pattern EXAMPLE =
        Pattern.compile("(?m)^f\\.(\\w+)\\(([-\\d, ]*)\\); +// (true|false|-?\\d+):");

    private ReadmeTest() {
    }

    public static void main(String[] args) throws IOException, ReflectiveOperationException {
        Check.due("the class file's path is given", args.length, 1);
        if (args.length > 0) {
            Path root = Path.of(args[0]).toAbsolutePath().resolve("../../../..").normalize();
            String readme = Files.readString(root.resolve("README.md"));
            example(readme);
            calls(readme);
            tests(readme, root.resolve("src/test/java"));
        }
        Check.end();
    }

    private static void example(String readme) throws ReflectiveOperationException {
        CubeMin f = new CubeMin();
        Matcher line = EXAMPLE.matcher(readme);
        int lines = 0;
        while (line.find()) {
            String answer = answer(f, line.group(1), line.group(2));
            Check.due(line.group() + " answered " + answer, answer.equals(line.group(3)), true);
            lines++;
        }
        Check.due("every line of the example has its answer", lines,
            readme.lines().filter(text -> text.startsWith("f.")).count());
        Check.due("there is an example", lines > 0, true);
    }

    private static String answer(CubeMin f, String name, String arguments)
            throws ReflectiveOperationException {
        String[] texts = arguments.isEmpty() ? new String[0] : arguments.split(", ");
        Class<?>[] types = new Class<?>[texts.length];
        Object[] numbers = new Object[texts.length];
        for (int k = 0; k < texts.length; k++) {
            types[k] = int.class;
            numbers[k] = Integer.valueOf(texts[k]);
        }
        return CubeMin.class.getMethod(name, types).invoke(f, numbers).toString();
    }

    private static void calls(String readme) {
        for (Method method : CubeMin.class.getDeclaredMethods()) {
            if (Modifier.isPublic(method.getModifiers())) {
                Check.due("README.md names " + method.getName(),
                    readme.contains("`" + method.getName() + "("), true);
            }
        }
    }

    private static void tests(String readme, Path directory) throws IOException {
        try (DirectoryStream<Path> files = Files.newDirectoryStream(directory, "*Test.java")) {
            for (Path file : files) {
                String name = file.getFileName().toString().replace(".java", "");
                Check.due("README.md names " + name, readme.contains("`" + name + "`"), true);
            }
        }
        Matcher named = Pattern.compile("`(\\w+Test)`").matcher(readme);
        while (named.find()) {
            Path file = directory.resolve(named.group(1) + ".java");
            Check.due("there is " + named.group(1), Files.exists(file), true);
        }
    }
}
