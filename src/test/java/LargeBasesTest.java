/** Formulas with many in the base, decided by the class and by the plain room, which must agree. */
public final class LargeBasesTest {
    private static final int TEXTS = 60000;
    private static final String[] FAR_OFF = {"E12E12a&~C12a", "E12E12E12a&~C12a", "E34E34a&~C34a", "K1K2K1K2K1a&~C12a",
        "K2K1K2K1K2a&~C12a", "K1K2K3K4a&~C1234a", "K4K3K2K1a&~C1234a", "C12~a&P1P2P1P2a", "C12(a>E12a)&a&~C12a",
        "~C12a&~C13a&K1a&K2a", "C12a&~C123a", "C1C2a&~C12a", "C12C23a=C123a",
        "K2P1E12a", "K2P2P2C1a", "C2~C1C2c", "C1~C2E2E13b", "C123P1C23a", "~((C2b&C1b)&((b&a)&C2b))&~C1E12(b&a)",
        "C12a&K3C12a", "C12a=C1C2a", "K1K2a=K2K1a"};
    private static final String[] GROUPS = {"1", "12", "13", "23", "123", "1234", "4", "24", "34", "2"};
    private long seed = 1234;

    private LargeBasesTest() {
    }

    /** A number below the bound; the same ones in every run. */
    private int any(int bound) {
        seed = seed * 6364136223846793005L + 1442695040888963407L;
        return (int) ((seed >>> 33) % bound);
    }

    private String some(int deep, String ops, String atoms) {
        if (deep == 0 || any(9) == 0) {
            return String.valueOf(atoms.charAt(any(atoms.length())));
        }
        char op = ops.charAt(any(ops.length()));
        String a = some(deep - 1, ops, atoms);
        switch (op) {
            case '~': return "~" + a;
            case 'K': case 'P': return "" + op + (1 + any(2)) + a;
            case 'E': case 'C': return op + GROUPS[any(GROUPS.length)] + a;
            default: return "(" + a + op + some(deep - 1, ops, atoms) + ")";
        }
    }

    private static void samePlain(String text) {
        PlainRoom plain = new PlainRoom();
        for (char c : text.toCharArray()) {
            plain.type(c);
        }
        Run run = new Run().put(text, plain.formula());
        int[] due = plain.decisions(13);
        for (int what = 0; what < 6; what++) {
            run.does("decide(" + what + ") " + due[what]);
        }
    }

    /** So many of each size of the base, the dear large ones few. */
    private void asPlain() {
        String[] ops = {"~&|>=KPEC", "&KKPEC~", "KCKC&~|", "&|>K", "&|>KKKPP~"};
        int[] left = {0, 0, 0, 0, 0, 0, 40, 40, 40, 40, 20, 3, 2, 1};
        for (int i = 0; i < TEXTS; i++) {
            String text = some(3 + any(4), ops[any(ops.length)], any(2) == 0 ? "ab" : "abcdefgh");
            Run run = new Run();
            if (text.length() > 200 || run.put(text).ask("count", 2) == 1) {
                continue;
            }
            int size = run.ask("decide", 2);
            if (size >= 0 && left[size]-- > 0) {
                samePlain(text);
            }
        }
        for (int size = 6; size < left.length; size++) {
            Check.due("there were some of " + size, 1, left[size] <= 0 ? 1 : 0);
        }
    }

    public static void main(String[] args) {
        // C that fails only far off: in types from which many goings lead to a doubt.
        for (String text : FAR_OFF) {
            samePlain(text);
        }
        new LargeBasesTest().asPlain();
        Check.end();
    }
}
