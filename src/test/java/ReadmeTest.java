import java.lang.reflect.Method;
import java.lang.reflect.Modifier;
import java.net.URL;
import java.net.URLClassLoader;
import java.nio.file.Files;
import java.nio.file.Path;
import java.util.Comparator;
import java.util.List;
import java.util.regex.Matcher;
import java.util.regex.Pattern;
import java.util.stream.Stream;
import javax.tools.ToolProvider;

/** README.md: its example compiles and is answered as told there; every public call and every test is named. */
public final class ReadmeTest {
    private static final Path README = Path.of("README.md");
    private static final Path TESTS = Path.of("src/test/java");
    private static final Pattern ANSWERED = Pattern.compile("(?m)^(x\\.(\\w+)\\(.*\\)); *// (-?\\d+)(:.*)?$");

    public static void main(String[] args) throws Exception {
        String page = Files.readString(README);
        example(page);
        for (Method method : CrossTable.class.getDeclaredMethods()) {
            boolean open = Modifier.isPublic(method.getModifiers());
            Due.holds(method.getName() + " is told", !open || page.contains("`" + method.getName() + "`"));
        }
        try (Stream<Path> files = Files.list(TESTS)) {
            for (Path file : files.filter(f -> f.toString().endsWith("Test.java")).toList()) {
                String test = file.getFileName().toString().replace(".java", "");
                Due.holds(test + " is told", page.contains("\n| " + test + " | "));
            }
        }
        Due.end("ReadmeTest");
    }

    /** The example as it stands, but each call whose answer is told is asked for it. */
    private static void example(String page) throws Exception {
        Matcher block = Pattern.compile("(?s)```java\n(.*?)```").matcher(page);
        boolean found = block.find();
        Due.holds("there is an example", found);
        if (!found) {
            return;
        }
        Matcher answered = ANSWERED.matcher(block.group(1));
        String asked = answered.replaceAll("ask(\"$2\", $1, $3);");
        Due.is("calls of the example without an answer", Pattern.compile("(?m)^x\\.").matcher(asked).results().count(), 0);
        Path room = Files.createTempDirectory("readme");
        try {
            compiled(room, asked);
        } finally {
            remove(room);
        }
    }

    /** What the example answers is handed back as pairs of longs, since it has a class loader of its own. */
    private static void compiled(Path room, String asked) throws Exception {
        Path source = room.resolve("Example.java");
        Files.writeString(source, String.join("\n",
                "public final class Example {",
                "    private static final java.util.List<Object[]> ANSWERS = new java.util.ArrayList<>();",
                "    private static void ask(String call, long got, long want) {",
                "        ANSWERS.add(new Object[] {call, got, want});",
                "    }",
                "    public static java.util.List<Object[]> run() {",
                asked,
                "        return ANSWERS;",
                "    }",
                "}"));
        int failed = ToolProvider.getSystemJavaCompiler().run(null, null, null,
                "-d", room.toString(), "-cp", System.getProperty("java.class.path"), source.toString());
        Due.is("the example compiles", failed, 0);
        if (failed != 0) {
            return;
        }
        try (URLClassLoader loader = new URLClassLoader(new URL[] {room.toUri().toURL()})) {
            List<?> answers = (List<?>) loader.loadClass("Example").getMethod("run").invoke(null);
            Due.holds("the example asks", !answers.isEmpty());
            for (Object one : answers) {
                Object[] answer = (Object[]) one;
                Due.is("README: " + answer[0], (Long) answer[1], (Long) answer[2]);
            }
        }
    }

    private static void remove(Path room) throws Exception {
        try (Stream<Path> files = Files.walk(room)) {
            for (Path file : files.sorted(Comparator.reverseOrder()).toList()) {
                Files.delete(file);
            }
        }
    }
}
