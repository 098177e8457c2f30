import java.nio.file.Files;
import java.nio.file.Path;
import java.util.ArrayList;
import java.util.Arrays;
import java.util.List;
import java.util.regex.Matcher;
import java.util.regex.Pattern;
import java.util.stream.Stream;

/**
 * Every sentence of the promises and of the Terms is one by which a test says its answers are due (Due.sentence),
 * and what the tests say stands in the document, word by word.
 */
public final class SentencesTest {
    private static final Path DOCUMENT = Path.of("../shared/DOC.md");
    private static final Path TESTS = Path.of("src/test/java");
    private static final int PROMISES = 29;
    private static final String STRING = "\"(?:[^\"\\\\]|\\\\.)*\"";

    private record Sentence(int promise, String words, String test) {
    }

    public static void main(String[] args) throws Exception {
        String document = Files.readString(DOCUMENT);
        List<Sentence> told = sentencesOfTests();
        for (int promise = 0; promise <= PROMISES; promise++) {
            look(promise, promise == 0 ? terms(document) : wordsOf(promise, document), told);
        }
        Due.end("SentencesTest");
    }

    private static List<Sentence> sentencesOfTests() throws Exception {
        Pattern call = Pattern.compile("Due\\.sentence\\((\\d+), ((?:\\s*\\+?\\s*" + STRING + ")+)\\);");
        Pattern part = Pattern.compile(STRING);
        List<Sentence> told = new ArrayList<>();
        try (Stream<Path> files = Files.list(TESTS)) {
            for (Path file : files.sorted().toList()) {
                Matcher calls = call.matcher(Files.readString(file));
                while (calls.find()) {
                    StringBuilder words = new StringBuilder();
                    Matcher parts = part.matcher(calls.group(2));
                    while (parts.find()) {
                        words.append(parts.group(), 1, parts.group().length() - 1);
                    }
                    told.add(new Sentence(Integer.parseInt(calls.group(1)), words.toString(), file.getFileName().toString()));
                }
            }
        }
        return told;
    }

    private static String between(String all, String from, String to) {
        int start = all.indexOf(from);
        int end = all.indexOf(to, Math.max(0, start) + from.length());
        Due.holds("the document has " + from.trim(), start >= 0 && end >= 0);
        return start < 0 || end < 0 ? "" : all.substring(start + from.length(), end);
    }

    private static String terms(String document) {
        return plain(between(document, "## Terms\n", "\nAhead of the calls").replaceAll("```(text)?", "").replaceAll("==== \\d", ""));
    }

    private static String wordsOf(int promise, String document) {
        String section = between(document, "\n## Promise " + promise + ": ", "\n## ");
        return plain(section.replaceFirst("(?s)^.*?`[^`]*`:", ""));
    }

    private static String plain(String words) {
        return words.replaceAll("\\s+", " ").trim();
    }

    private static void look(int promise, String words, List<Sentence> told) {
        boolean[] tested = new boolean[words.length()];
        for (Sentence one : told) {
            if (one.promise == promise) {
                int at = words.indexOf(one.words);
                Due.holds(one.test + " says what stands in promise " + promise + ": " + one.words, at >= 0);
                if (at >= 0) {
                    Arrays.fill(tested, at, at + one.words.length(), true);
                }
            }
        }
        StringBuilder left = new StringBuilder();
        for (int i = 0; i < words.length(); i++) {
            left.append(tested[i] ? ' ' : words.charAt(i));
        }
        Due.same("words of promise " + promise + " (0: the Terms) without a test", plain(left.toString()), "");
    }
}
