import java.io.IOException;
import java.nio.file.Files;
import java.nio.file.Path;
import java.util.regex.Matcher;
import java.util.regex.Pattern;

/** The calls that README.md shows answer what it says they do. */
public final class ReadmeTest {
    private static final Pattern CALL = Pattern.compile("room\\.(\\w+\\([^)]*\\)); +// (-?\\d+).*");
    private static final Pattern PUT = Pattern.compile("put\\(room, \"([^\"]*)\"\\); +// (-?\\d+).*");
    private static final int SHOWN = 20;

    private ReadmeTest() {
    }

    public static void main(String[] args) throws IOException {
        Run run = new Run();
        int shown = 0;
        for (String line : Files.readAllLines(Path.of("README.md"))) {
            Matcher call = CALL.matcher(line);
            Matcher put = PUT.matcher(line);
            if (call.matches()) {
                run.does(call.group(1) + " " + call.group(2));
                shown++;
            } else if (put.matches()) {
                run.put(put.group(1), Integer.parseInt(put.group(2)));
                shown++;
            }
        }
        Check.due("as many calls are shown", SHOWN, shown);
        Check.end();
    }
}
