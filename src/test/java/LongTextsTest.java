/** Long texts, most of which go right for long: the plain room must read the same, or find the same fault. */
public final class LongTextsTest {
    private static final int TEXTS = 40000;
    private static final String[] BEFORE = {"~", "~", "K1", "P2", "E12", "C1234", "D3 ", "(", "(", "[", "{", "[a]", "{b}"};
    private long seed = 4711;

    private LongTextsTest() {
    }

    /** A number below the bound; the same ones in every run. */
    private int any(int bound) {
        seed = seed * 6364136223846793005L + 1442695040888963407L;
        return (int) ((seed >>> 33) % bound);
    }

    private String text() {
        StringBuilder text = new StringBuilder();
        StringBuilder closers = new StringBuilder();
        int mix = 2 + any(12);
        int rare = 3 + any(300);
        int size = any(201);
        while (text.length() < size) {
            while (any(mix) > 1 && text.length() < size) {
                open(text, closers);
            }
            text.append(any(rare) == 0 ? "x" : "ab01".charAt(any(4)));
            close(text, closers, rare);
            text.append(any(20) == 0 ? " " : "");
        }
        text.append(any(rare) == 0 ? "" : "a").append(closers.reverse());
        text.setLength(Math.min(200, text.length()));
        return text.toString();
    }

    private void open(StringBuilder text, StringBuilder closers) {
        String more = BEFORE[any(BEFORE.length)];
        int kind = "([{".indexOf(more);
        text.append(more);
        closers.append(kind < 0 ? "" : ")]}".charAt(kind));
    }

    private void close(StringBuilder text, StringBuilder closers, int rare) {
        char close = ')';
        while (close == ')' && closers.length() > 0 && any(3) == 0) {
            close = closers.charAt(closers.length() - 1);
            closers.setLength(closers.length() - 1);
            text.append(any(rare) == 0 ? ']' : close);
        }
        if (close == ')') {
            text.append(any(rare) == 0 ? '=' : "&|>".charAt(any(3)));
        }
    }

    private static void compare(String text) {
        PlainRoom plain = new PlainRoom();
        for (char c : text.toCharArray()) {
            plain.type(c);
        }
        int answer = plain.formula();
        Run run = new Run().put(text, answer);
        if (answer > 0) {
            run.does("tell() " + plain.tell() + "; count(5) " + plain.count(5));
        }
    }

    public static void main(String[] args) {
        LongTextsTest test = new LongTextsTest();
        for (int i = 0; i < TEXTS; i++) {
            compare(test.text());
        }
        Check.end();
    }
}
