/** Promises 7 to 13: type, four, formula, holds, worlds, tell, letter. */
public final class FormulasTest {
    private static final int BAD = KnowledgeRoom.BAD;
    private static long seed = 4711;

    private FormulasTest() {
    }

    private static void type() {
        KnowledgeRoom room = new KnowledgeRoom();
        int[] none = {31, 127, 0, -1, 128, 255, 65536 + 'a', Integer.MIN_VALUE, Integer.MAX_VALUE};
        for (int c : none) {
            Check.due("type " + c, BAD, room.type(c));
        }
        Check.due("nothing came", 0, room.count(3));
        for (int i = 0; i < 200; i++) {
            Check.due("sign " + i, i + 1, room.type(i % 2 == 0 ? 32 : 126));
        }
        Check.due("sign 200", BAD, room.type('a'));
        Check.due("signs", 200, room.count(3));
    }

    private static int signs(String four) {
        int number = 0;
        for (int i = 0; i < 4; i++) {
            number = number << 8 | four.charAt(i) & 255;
        }
        return number;
    }

    private static void four() {
        KnowledgeRoom room = new KnowledgeRoom();
        Check.due("four 0", 0, room.four(0));
        Check.due("four of two", 2, room.four(signs("\0K\0" + "1")));
        Check.due("a sign that is none", BAD, room.four(signs("ab\nc")));
        Check.due("a sign that is none, at the end", BAD, room.four(signs("abc\177")));
        Check.due("a sign below 0", BAD, room.four(signs("\377abc")));
        Check.due("nothing came of them", 2, room.count(3));
        Check.due("four of one", 3, room.four('a'));
        Check.due("K1a", 2, room.formula());
        Check.due("it is K1a", "K1a", Check.told(room));
        for (int i = 1; i <= 49; i++) {
            Check.due("four " + i, 4 * i, room.four(signs("abcd")));
        }
        Check.due("two more", 198, room.four(signs("a\0\0b")));
        Check.due("no room for three", BAD, room.four(signs("abc\0")));
        Check.due("nothing came of them", 198, room.count(3));
        Check.due("room for two", 200, room.four(signs("\0ab\0")));
        Check.due("none have room", 200, room.four(0));
        Check.due("one has not", BAD, room.four('a'));
    }

    /** What formula() must answer for a text, and what is at hand behind it. */
    private static void reads(String text, int answer, String tells) {
        KnowledgeRoom room = new KnowledgeRoom();
        Check.due("formula " + text, answer, Check.put(room, text));
        Check.due("all is gone behind " + text, 0, room.count(3));
        Check.due("NODES behind " + text, answer > 0 ? answer : 1, room.count(2));
        Check.due("told behind " + text, answer > 0 ? tells : "1", Check.told(room));
        Check.due("nothing is collected behind " + text, -10, room.formula());
    }

    private static void fault(String text, int place) {
        reads(text, -10 - place, "1");
    }

    private static void formula() {
        reads("a", 1, "a");
        reads("h", 1, "h");
        reads("0", 1, "0");
        reads("a=b", 3, "a=b");
        reads("a>b=c|d", 7, "(a>b)=(c|d)");
        reads("a>b>c", 5, "a>(b>c)");
        reads("a|b|c", 5, "(a|b)|c");
        reads("a&b&c", 5, "(a&b)&c");
        reads("a|b&c|d", 7, "(a|(b&c))|d");
        reads("a&b|c&d>e|f=g>h", 15, "(((a&b)|(c&d))>(e|f))=(g>h)");
        reads("~a&b", 4, "~a&b");
        reads("~(a&b)", 4, "~(a&b)");
        reads("((((a))))", 1, "a");
        reads("[a&b]c&d", 7, "[a&b]c&d");
        reads("[a&b](c&d)", 7, "[a&b](c&d)");
        reads("{a=b}~[c]K1d", 9, "{a=b}~[c]K1d");
        reads("[(a=b)=c][{d}e]f", 11, "[(a=b)=c][{d}e]f");
        reads("E11", 2, "E11");
        reads("E121", 2, "E121");
        reads("E12340", 2, "E12340");
        reads("C24a", 2, "C24a");
        reads("D1K1a", 3, "D1K1a");
        reads("P4P4a", 3, "P4P4a");
        reads("  E 1 2  a ", 2, "E12a");
        reads(" [ a ] b", 3, "[a]b");
    }

    private static void faults() {
        fault("", 0);
        fault("   ", 3);
        fault("a&", 2);
        fault("a& ", 3);
        fault("a b", 2);
        fault("(a", 2);
        fault("(a]", 2);
        fault("a)", 1);
        fault(")", 0);
        fault("[a)b", 2);
        fault("{a]b", 2);
        fault("[a]", 3);
        fault("[]a", 1);
        fault("a=b=c", 3);
        fault("(a=b=c)", 4);
        fault("K0a", 1);
        fault("K 5", 2);
        fault("K12a", 2);
        fault("Ea", 1);
        fault("E21a", 3);
        reads("E21", 2, "E21");
        fault("E12", 3);
        fault("E1", 2);
        fault("D", 1);
        fault("i", 0);
        fault("A", 0);
        fault("2", 0);
        fault("a~b", 1);
        fault("a&&b", 2);
        fault("&a", 0);
        fault("~", 1);
        fault("a@", 1);
    }

    private static void limits() {
        String ones = Check.repeat("~", 30);
        reads(ones + "a", 31, ones + "a");
        fault(ones + "~a", 31);
        fault(ones + "~ (", 32);
        fault(ones + "~", 31);
        fault(Check.repeat("K1", 31) + "a", 62);
        fault(Check.repeat("[a]", 31) + "a", 93);
        reads(ones + "(" + ones + "a)", 61, ones + ones + "a");
        reads("[" + ones + "a]" + Check.repeat("~", 29) + "a", 62, "[" + ones + "a]" + Check.repeat("~", 29) + "a");
        fault("[" + ones + "a]" + ones + "a", 63);
        reads(ones + "a&" + ones + "a", 63, ones + "a&" + ones + "a");
        String open = Check.repeat("(", 15);
        reads(open + "a" + Check.repeat(")", 15), 1, "a");
        fault(open + "(a" + Check.repeat(")", 16), 15);
        fault(open + " [a]b", 16);
        fault(open + "{a}b", 15);
        fault(Check.repeat("[", 16) + "a", 15);
        reads(Check.repeat("(a&", 15) + "b" + Check.repeat(")", 15), 31,
            Check.repeat("a&(", 14) + "a&b" + Check.repeat(")", 14));
        reads("~" + Check.repeat("a&", 74) + "a", 150, Check.repeat("(", 73) + "~a&a" + Check.repeat(")&a", 73));
        reads(Check.repeat("a>", 74) + "~a", 150, Check.repeat("a>(", 73) + "a>~a" + Check.repeat(")", 73));
        fault(Check.repeat("a&", 75) + "a", 150);
        fault(Check.repeat("a>", 75) + "(", 151);
        fault("~" + Check.repeat("a|", 74) + "a&b", 150);
        fault("~" + Check.repeat("a|", 74) + "a )", 151);
        fault("~" + Check.repeat("a|", 73) + "a& ~b", 151);
        fault(Check.repeat("a&", 75) + " K5", 151);
        fault(Check.repeat("a&", 75) + "[", 150);
    }

    private static void stays() {
        KnowledgeRoom room = new KnowledgeRoom();
        Check.put(room, "K1a|b");
        Check.due("a fault", -12, Check.put(room, "a&"));
        Check.due("it stays", "K1a|b", Check.told(room));
    }

    private static void holdsFor(KnowledgeRoom room, String text, String where) {
        Check.put(room, text);
        int many = 0;
        for (int w = 0; w < where.length(); w++) {
            int is = where.charAt(w) - '0';
            many += is;
            Check.due(text + " in " + w, is, room.holds(w));
        }
        Check.due(text, many, room.worlds());
    }

    /** Four worlds, none / a / b / a b: 1 can't tell a, 2 can't tell b, 3 can't tell anything. */
    private static void holding() {
        KnowledgeRoom room = new KnowledgeRoom();
        for (int atoms = 0; atoms < 4; atoms++) {
            room.world(atoms);
        }
        room.tie(1, 0, 1);
        room.tie(1, 2, 3);
        room.tie(2, 0, 2);
        room.tie(2, 1, 3);
        room.tie(3, 0, 1);
        room.tie(3, 1, 2);
        room.tie(3, 2, 3);
        holdsFor(room, "a", "0101");
        holdsFor(room, "0", "0000");
        holdsFor(room, "1", "1111");
        holdsFor(room, "a=b", "1001");
        holdsFor(room, "a>b", "1011");
        holdsFor(room, "a|b", "0111");
        holdsFor(room, "a&b", "0001");
        holdsFor(room, "~a", "1010");
        holdsFor(room, "K1a", "0000");
        holdsFor(room, "K1b", "0011");
        holdsFor(room, "K2a", "0101");
        holdsFor(room, "K3(a>a)", "1111");
        holdsFor(room, "K4a", "0101");
        holdsFor(room, "P1a", "1111");
        holdsFor(room, "P1b", "0011");
        holdsFor(room, "E12(a|b)", "0001");
        holdsFor(room, "E4b", "0011");
        holdsFor(room, "C12(a|b)", "0000");
        holdsFor(room, "C1b", "0011");
        holdsFor(room, "C24a", "0101");
        holdsFor(room, "D12(a&b)", "0001");
        holdsFor(room, "D3(a|b)", "0000");
        holdsFor(room, "D13b", "0011");
        holdsFor(room, "[a|b]K1b", "1011");
        holdsFor(room, "{a|b}K1b", "0011");
        holdsFor(room, "[a|b]a", "1101");
        holdsFor(room, "[0]0", "1111");
        holdsFor(room, "{0}1", "0000");
        holdsFor(room, "[a|b][~K1b]K2 ~b", "1111");
        holdsFor(room, "{a|b}{~K1b}K2 ~b", "0100");
        holdsFor(room, "{a=b}C12(a=b)", "1001");
        holdsFor(room, "{a=b}C123a", "0000");
        holdsFor(room, "{a=b}C12a", "0001");
        holdsFor(room, "K3[a|b]K3(a|b)", "1111");
        Check.due("holds -1", BAD, room.holds(-1));
        Check.due("holds 4", BAD, room.holds(4));
        Check.put(room, "K1b");
        Check.due("before", 2, room.worlds());
        room.alone(1, 2);
        room.atom(2, 1, false);
        Check.due("what is otherwise is seen", 1, room.worlds());
    }

    private static void telling() {
        KnowledgeRoom room = new KnowledgeRoom();
        Check.put(room, "a&b");
        Check.due("no text yet", KnowledgeRoom.NONE, room.letter(0));
        Check.due("tell", 3, room.tell());
        Check.put(room, "~c");
        Check.due("the text stays", '&', room.letter(1));
        Check.due("letter 3", KnowledgeRoom.NONE, room.letter(3));
        Check.due("letter -1", KnowledgeRoom.NONE, room.letter(-1));
        Check.due("letter MIN", KnowledgeRoom.NONE, room.letter(Integer.MIN_VALUE));
        Check.due("letter MAX", KnowledgeRoom.NONE, room.letter(Integer.MAX_VALUE));
        Check.due("tell again", 2, room.tell());
        Check.due("letter 2", KnowledgeRoom.NONE, room.letter(2));
        Check.due("letter 1", 'c', room.letter(1));
    }

    private static int any(int bound) {
        seed = seed * 6364136223846793005L + 1442695040888963407L;
        return (int) ((seed >>> 33) % bound);
    }

    /** Long texts, most of which go right for long: the plain room must find the same fault. */
    private static void longTexts() {
        String[] before = {"~", "~", "K1", "P2", "E12", "C1234", "D3 ", "(", "(", "[", "{", "[a]", "{b}"};
        for (int i = 0; i < 40000; i++) {
            StringBuilder text = new StringBuilder();
            StringBuilder closers = new StringBuilder();
            int mix = 2 + any(12);
            int rare = 3 + any(300);
            int size = any(201);
            while (text.length() < size) {
                while (any(mix) > 1 && text.length() < size) {
                    String more = before[any(before.length)];
                    text.append(more);
                    int kind = "([{".indexOf(more);
                    closers.append(kind < 0 ? "" : ")]}".charAt(kind));
                }
                text.append(any(rare) == 0 ? "x" : "ab01".charAt(any(4)));
                char close = ')';
                while (close == ')' && closers.length() > 0 && any(3) == 0) {
                    close = closers.charAt(closers.length() - 1);
                    closers.setLength(closers.length() - 1);
                    text.append(any(rare) == 0 ? ']' : close);
                }
                if (close == ')') {
                    text.append(any(rare) == 0 ? '=' : "&|>".charAt(any(3)));
                }
                text.append(any(20) == 0 ? " " : "");
            }
            text.append(any(rare) == 0 ? "" : "a").append(closers.reverse());
            text.setLength(Math.min(200, text.length()));
            compare(text.toString());
        }
    }

    private static void compare(String text) {
        KnowledgeRoom room = new KnowledgeRoom();
        PlainRoom plain = new PlainRoom();
        for (char c : text.toCharArray()) {
            plain.type(c);
        }
        int answer = plain.formula();
        Check.due("formula " + text, answer, Check.put(room, text));
        if (answer > 0) {
            Check.due("tell " + text, plain.tell(), room.tell());
            Check.due("deep " + text, plain.count(5), room.count(5));
        }
    }

    public static void main(String[] args) {
        type();
        four();
        formula();
        faults();
        limits();
        stays();
        holding();
        telling();
        longTexts();
        Check.end();
    }
}
