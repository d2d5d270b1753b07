/** Promises 23 to 25: reduce, decide, count. */
public final class DecidingTest {
    private static final int BAD = KnowledgeRoom.BAD;
    private static final int GREAT = KnowledgeRoom.GREAT;
    private static long seed = 1234;

    private DecidingTest() {
    }

    private static void reducesTo(String text, String due) {
        KnowledgeRoom room = new KnowledgeRoom();
        Check.put(room, text);
        int nodes = room.reduce();
        Check.due("reduce " + text, due, Check.told(room));
        Check.due("NODES of it", room.count(2), nodes);
        Check.due("reduce again", nodes, room.reduce());
    }

    private static void rules() {
        reducesTo("a&K1b", "a&K1b");
        reducesTo("[a]b", "a>b");
        reducesTo("[a]0", "a>0");
        reducesTo("[a]1", "a>1");
        reducesTo("[a]~b", "a>~(a>b)");
        reducesTo("[a](b&c)", "(a>b)&(a>c)");
        reducesTo("[a](b|c)", "(a>b)|(a>c)");
        reducesTo("[a](b>c)", "(a>b)>(a>c)");
        reducesTo("[a](b=c)", "(a>b)=(a>c)");
        reducesTo("[a]K2b", "a>K2(a>b)");
        reducesTo("[a]P3b", "a>P3(a&(a>b))");
        reducesTo("{a}b", "~(a>~(a>b))");
        reducesTo("[a][b]c", "(a>b)>(a>c)");
        reducesTo("[[a]b]c", "(a>b)>c");
        reducesTo("[a|b]K1[c]d", "(a|b)>K1(((a|b)>c)>((a|b)>d))");
        reducesTo("~[a]b&K1{b}1", "~(a>b)&K1~(b>~(b>1))");
        reducesTo("{[a]b}P1~c", "~((a>b)>~((a>b)>P1((a>b)&((a>b)>~((a>b)>c)))))");
    }

    private static void refused() {
        KnowledgeRoom room = new KnowledgeRoom();
        String[] bad = {"E1a", "C12a", "D1a", "[a]E1b", "[C1a]b", "{D1a}0"};
        for (String text : bad) {
            int nodes = Check.put(room, text);
            Check.due("reduce " + text, BAD, room.reduce());
            Check.due("it stays", text, Check.told(room));
            Check.due("its NODES stay", nodes, room.count(2));
        }
        String great = "[a=b]K1[a&b]K1[b|c]K2[c&a]K3[K1a]K2[P1b]K1~a";
        int nodes = Check.put(room, great);
        Check.due("reduce " + great, GREAT, room.reduce());
        Check.due("it stays", great, Check.told(room));
        Check.due("its NODES stay", nodes, room.count(2));
    }

    /** [f]g with a long f: its NODES are known, so the last one that fits and the next can be told. */
    private static void limit() {
        // [f] of n atoms joined becomes f > a for each: n * (|f| + 2) + n - 1 NODES.
        for (int n = 2; n <= 60; n++) {
            for (int f = 1; f <= 75 - n; f++) {
                int due = n * (2 * f - 1 + 2) + n - 1;
                KnowledgeRoom room = new KnowledgeRoom();
                String text = "[" + Check.repeat("a&", f - 1) + "a](" + Check.repeat("b|", n - 1) + "b)";
                if (text.length() <= 200 && Check.put(room, text) > 0) {
                    Check.due("reduce " + text, due > 2000 ? GREAT : due, room.reduce());
                }
            }
        }
        // Each ~ ahead of the last atom is one more f > ~, of 40 NODES here.
        exactly("", 39, 9, 50 * 40 - 1);
        exactly("", 40, 8, 50 * 40);
        exactly("", 41, 7, GREAT);
        exactly("~", 39, 9, 50 * 40);
        exactly("~", 40, 8, GREAT);
        exactly("K1", 40, 8, GREAT);
        exactly("a&", 39, 9, GREAT);
        exactly("{a}", 39, 9, GREAT);
    }

    private static void exactly(String before, int joins, int nots, int due) {
        String f = "~(" + Check.repeat("a|", 18) + "a)";
        String text = before + "[" + f + "](" + Check.repeat("b&", joins) + Check.repeat("~", nots) + "b)";
        KnowledgeRoom room = new KnowledgeRoom();
        int nodes = Check.put(room, text);
        Check.due("reduce " + text, due, room.reduce());
        Check.due("NODES then", due == GREAT ? nodes : due, room.count(2));
        int signs = room.tell();
        Check.due("the last sign is told", 1, room.letter(signs - 1) > 0 ? 1 : 0);
    }

    private static void decides(String text, int... due) {
        KnowledgeRoom room = new KnowledgeRoom();
        Check.put(room, text);
        for (int what = 0; what < 6; what++) {
            Check.due("decide(" + what + ") of " + text, due[what], room.decide(what));
        }
        Check.due("decide(6)", BAD, room.decide(6));
        Check.due("decide(-1)", BAD, room.decide(-1));
    }

    private static void decide() {
        decides("1", 1, 1, 0, 1, 1, 1);
        decides("0", 0, 0, 0, 1, 1, 0);
        decides("a", 1, 0, 1, 2, 2, 1);
        decides("a|~a", 1, 1, 1, 2, 2, 2);
        decides("K1a>a", 1, 1, 2, 3, 3, 3);
        decides("a>K1P1a", 1, 1, 3, 5, 3, 3);
        decides("K1(a&b)=K1(b&a)", 1, 1, 4, 7, 5, 5);
        decides("E12a=K1a&K2a", 1, 1, 3, 5, 5, 5);
        decides("E1a=K1a", 1, 1, 2, 3, 3, 3);
        decides("P1a=~K1~a", 1, 1, 2, 3, 3, 3);
        decides("C1a=K1a", 1, 1, 4, 5, 3, 3);
        decides("C12a>E12C12a", 1, 1, 4, 3, 3, 3);
        decides("P1a&K1~a", 0, 0, 2, 3, 3, 0);
        decides("C12(a>E12a)>(a>C12a)", 1, 1, 9, 12, 7, 7);
        bad("D1a");
        bad("[a]b");
        bad("{a}b");
        bad("K1[a]D2b");
        atLimits();
    }

    private static void bad(String text) {
        decides(text, BAD, BAD, BAD, BAD, BAD, BAD);
    }

    private static void atLimits() {
        // Eight atoms and five K: thirteen. One K more is too great.
        String atoms = "a&b&c&d&e&f&g&h";
        KnowledgeRoom room = new KnowledgeRoom();
        Check.put(room, atoms + "&K1a&K2a&K3a&K4a&K1b");
        Check.due("13 in the BASE", 13, room.decide(2));
        Check.due("types of 13", 64 * (17 * 3), room.decide(3));
        Check.due("it can hold", 1, room.decide(0));
        String great = atoms + "&K1a&K2a&K3a&K4a&K1b&K2b";
        decides(great, GREAT, GREAT, GREAT, GREAT, GREAT, GREAT);
        decides("E1234E1234E1234a&b", GREAT, GREAT, GREAT, GREAT, GREAT, GREAT);
        room = new KnowledgeRoom();
        Check.put(room, "E1234E1234E1234a");
        Check.due("alike ones once", 13, room.decide(2));
        Check.put(room, Check.repeat("K1", 12) + "a");
        Check.due("K in K", 13, room.decide(2));
        Check.due("all are told by the first one", 3, room.decide(4));
        Check.put(room, Check.repeat("P1", 13) + "a");
        Check.due("P in P is too much", GREAT, room.decide(2));
        Check.due("BAD before GREAT", BAD, room.decide(7));
    }

    /** What is decided belongs to the formula at hand, not to one before it. */
    private static void anew() {
        KnowledgeRoom room = new KnowledgeRoom();
        Check.put(room, "[a]a");
        Check.due("not so", BAD, room.decide(1));
        Check.due("reduce", 3, room.reduce());
        Check.due("valid", 1, room.decide(1));
        Check.put(room, "a&");
        Check.due("still valid", 1, room.decide(1));
        Check.put(room, "a");
        Check.due("not valid", 0, room.decide(1));
    }

    private static int any(int bound) {
        seed = seed * 6364136223846793005L + 1442695040888963407L;
        return (int) ((seed >>> 33) % bound);
    }

    private static String some(int deep, String ops, String atoms) {
        if (deep == 0 || any(9) == 0) {
            return "" + atoms.charAt(any(atoms.length()));
        }
        String[] groups = {"1", "12", "13", "23", "123", "1234", "4", "24", "34", "2"};
        char op = ops.charAt(any(ops.length()));
        String a = some(deep - 1, ops, atoms);
        switch (op) {
            case '~': return "~" + a;
            case 'K': case 'P': return "" + op + (1 + any(2)) + a;
            case 'E': case 'C': return op + groups[any(groups.length)] + a;
            default: return "(" + a + op + some(deep - 1, ops, atoms) + ")";
        }
    }

    private static void samePlain(KnowledgeRoom room, String text) {
        PlainRoom plain = new PlainRoom();
        for (char c : text.toCharArray()) {
            plain.type(c);
        }
        plain.formula();
        int[] due = plain.decisions(13);
        for (int what = 0; what < 6; what++) {
            Check.due("decide(" + what + ") of " + text, due[what], room.decide(what));
        }
    }

    /** C that fails only far off: in types from which many goings lead to a doubt. */
    private static void farOff() {
        String[] texts = {"E12E12a&~C12a", "E12E12E12a&~C12a", "E34E34a&~C34a", "K1K2K1K2K1a&~C12a",
            "K2K1K2K1K2a&~C12a", "K1K2K3K4a&~C1234a", "K4K3K2K1a&~C1234a", "C12~a&P1P2P1P2a",
            "C12(a>E12a)&a&~C12a", "~C12a&~C13a&K1a&K2a", "C12a&~C123a", "C1C2a&~C12a", "C12C23a=C123a"};
        for (String text : texts) {
            KnowledgeRoom room = new KnowledgeRoom();
            Check.due(text + " is a formula", 1, Check.put(room, text) > 0 ? 1 : 0);
            samePlain(room, text);
        }
        decides("E12E12a&~C12a", 1, 0, 8, 15, 9, 1);
    }

    /** Formulas with many in the BASE, as the plain room decides them. */
    private static void asPlain() {
        String[] ops = {"~&|>=KPEC", "&KKPEC~", "KCKC&~|", "&|>K", "&|>KKKPP~"};
        int[] left = {0, 0, 0, 0, 0, 0, 40, 40, 40, 40, 20, 3, 2, 1};
        for (int i = 0; i < 60000; i++) {
            String text = some(3 + any(4), ops[any(ops.length)], any(2) == 0 ? "ab" : "abcdefgh");
            KnowledgeRoom room = new KnowledgeRoom();
            if (text.length() > 200 || Check.put(room, text) < 0) {
                continue;
            }
            int size = room.decide(2);
            if (size >= 0 && left[size]-- > 0) {
                samePlain(room, text);
            }
        }
        for (int size = 6; size < left.length; size++) {
            Check.due("there were some of " + size, 1, left[size] <= 0 ? 1 : 0);
        }
    }

    private static void count() {
        KnowledgeRoom room = new KnowledgeRoom();
        room.world(0);
        room.world(1);
        room.world(1);
        room.event();
        room.event();
        Check.put(room, "a");
        room.say();
        Check.put(room, "[K1K2a]E12(P1D3b|C1a)&K4b");
        room.type('a');
        int[] due = {2, 2, 14, 1, 1, 3};
        for (int what = 0; what < 6; what++) {
            Check.due("count " + what, due[what], room.count(what));
        }
        Check.due("count -1", BAD, room.count(-1));
        Check.due("count 6", BAD, room.count(6));
        room.formula();
        Check.due("deep of a", 0, room.count(5));
        Check.put(room, "~~K1~~(a&[E1b]0)");
        Check.due("deep within [ ]", 2, room.count(5));
        Check.put(room, Check.repeat("K1", 30) + "(" + Check.repeat("D2", 30) + "a)");
        Check.due("deep of 60", 60, room.count(5));
    }

    public static void main(String[] args) {
        rules();
        refused();
        limit();
        decide();
        anew();
        farOff();
        asPlain();
        count();
        Check.end();
    }
}
