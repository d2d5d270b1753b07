import java.io.IOException;
import java.nio.file.Files;
import java.nio.file.Path;
import java.util.Arrays;
import java.util.List;
import java.util.regex.Matcher;
import java.util.regex.Pattern;
import java.util.stream.Collectors;
import java.util.stream.Stream;

/** Every sentence that a test says it is of is the document's own, and none of the document's is left out. */
public final class SentencesTest {
    private static final Path DOCUMENT = Path.of("../shared/DOC.md");
    private static final Path TESTS = Path.of("src/test/java");
    private static final int PROMISES = 25;
    private static final String LITERAL = "\"((?:[^\"\\\\]|\\\\.)*)\"";
    private static final Pattern SENTENCE = Pattern.compile(
        "Check\\.sentence\\((\\d+), (" + LITERAL + "(?:\\s*\\+\\s*" + LITERAL + ")*)\\)");

    private SentencesTest() {
    }

    private static String between(String text, String from, String to) {
        int start = text.indexOf(from);
        int end = to.isEmpty() ? text.length() : text.indexOf(to, start + from.length());
        Check.due("the document has " + from, 1, start >= 0 && end >= 0 ? 1 : 0);
        return start >= 0 && end >= 0 ? text.substring(start + from.length(), end) : "";
    }

    private static String plain(String text) {
        return text.replace("```text", " ").replace("```", " ").replace("====", " ").replaceAll("\\s+", " ").trim();
    }

    /** What is to be quoted: 0 the terms, and how long an object is used; else a promise behind its signature. */
    private static String part(String document, int promise) {
        if (promise == 0) {
            String use = "An object is used";
            return plain(use + between(document, use, "\n## ") + " " + between(document, "\n## Terms\n", "\nAhead of"));
        }
        String body = between(document, "\n## Promise " + promise + ": ", "\n## ");
        return plain(body.substring(body.indexOf("`: ") + 3));
    }

    private static String joined(String literals) {
        Matcher literal = Pattern.compile(LITERAL).matcher(literals);
        StringBuilder words = new StringBuilder();
        while (literal.find()) {
            words.append(literal.group(1));
        }
        return words.toString();
    }

    private static void mark(String part, String words, boolean[] quoted) {
        int at = part.indexOf(words);
        Check.due("a place in the document for: " + words, 1, at >= 0 && !words.isEmpty() ? 1 : 0);
        for (; at >= 0 && !words.isEmpty(); at = part.indexOf(words, at + 1)) {
            Arrays.fill(quoted, at, at + words.length(), true);
        }
    }

    private static String leftOut(String part, boolean[] quoted) {
        StringBuilder left = new StringBuilder();
        for (int i = 0; i < quoted.length; i++) {
            if (!quoted[i] && part.charAt(i) != ' ') {
                left.append(part.charAt(i));
            }
        }
        return left.toString();
    }

    public static void main(String[] args) throws IOException {
        String document = Files.readString(DOCUMENT);
        List<Path> files;
        try (Stream<Path> all = Files.list(TESTS)) {
            files = all.filter(file -> file.toString().endsWith("Test.java")).sorted().collect(Collectors.toList());
        }
        String[] parts = new String[PROMISES + 1];
        boolean[][] quoted = new boolean[PROMISES + 1][];
        for (int promise = 0; promise <= PROMISES; promise++) {
            parts[promise] = part(document, promise);
            quoted[promise] = new boolean[parts[promise].length()];
        }
        for (Path file : files) {
            Matcher matcher = SENTENCE.matcher(Files.readString(file));
            while (matcher.find()) {
                int promise = Integer.parseInt(matcher.group(1));
                mark(parts[promise], joined(matcher.group(2)), quoted[promise]);
            }
        }
        for (int promise = 0; promise <= PROMISES; promise++) {
            Check.due("what no test is of, in promise " + promise, "", leftOut(parts[promise], quoted[promise]));
        }
        Check.end();
    }
}
