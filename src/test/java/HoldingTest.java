/** Where a formula holds; promises 10 to 13: holds, worlds, tell, letter, sentence by sentence. */
public final class HoldingTest {
    private HoldingTest() {
    }

    /** Four worlds, none / a / b / a b: 1 can't tell a, 2 can't tell b, 3 can't tell anything. */
    private static Run four() {
        return new Run("world(0); world(1); world(2); world(3); tie(1, 0, 1); tie(1, 2, 3); tie(2, 0, 2);"
            + "tie(2, 1, 3); tie(3, 0, 1); tie(3, 1, 2); tie(3, 2, 3)");
    }

    /** As many worlds as can be, in a row: 1 and 2 in turn can't tell neighbours. */
    private static Run row(int lastAtoms) {
        Run run = new Run();
        for (int w = 0; w < 64; w++) {
            run.does("world(" + (w == 63 ? lastAtoms : 0) + ")");
            if (w > 0) {
                run.does("tie(" + (1 + w % 2) + ", " + (w - 1) + ", " + w + ")");
            }
        }
        return run;
    }

    private static void plain() {
        Check.sentence(0, "IT HOLDS in a world of some worlds, those that are THERE: ATOMS as they are;"
            + " 1 always, 0 never;");
        four().where("a", "0101").where("b", "0011").where("c", "0000").where("1", "1111").where("0", "0000");
        row(128).where("h", "0".repeat(63) + "1").where("1", "1".repeat(64)).where("0", "0".repeat(64));

        Check.sentence(0, "= if both sides hold, or neither;");
        four().where("a=b", "1001").where("b=a", "1001").where("a=1", "0101").where("a=0", "1010");
        row(1).where("a=b", "1".repeat(63) + "0");

        Check.sentence(0, "> if the first one does not hold or the second one does;");
        four().where("a>b", "1011").where("b>a", "1101").where("0>0", "1111").where("1>0", "0000").where("a>1", "1111");

        Check.sentence(0, "| & ~ as usual;");
        four().where("a|b", "0111").where("a&b", "0001").where("~a", "1010").where("~~a", "0101")
            .where("~1", "0000").where("~0", "1111").where("~(a|b)", "1000");
        row(1).where("~a", "1".repeat(63) + "0");
    }

    private static void knowing() {
        Check.sentence(0, "K1 f, if f holds in all that are there of 1's cell of it;");
        four().where("K1a", "0000").where("K1b", "0011").where("K2a", "0101").where("K3(a>a)", "1111")
            .where("K3(a|b)", "0000").where("K4a", "0101").where("K1K2(a>a&a)", "1111").where("K10", "0000")
            .where("{a|b}K1b", "0011").where("{a}K1a", "0101").where("{~a}K3~a", "1010");
        row(1).where("K1~a", "1".repeat(63) + "0").does("told(63, 2) 62").put("K2~a").does("worlds() 62");

        Check.sentence(0, "P1 f: ~K1~f;");
        four().where("P1a", "1111").where("P1b", "0011").where("P2a", "0101").where("P3(a&b)", "1111")
            .where("P4a", "0101").where("P10", "0000").where("{b}P1a", "0011").where("{~a}P3a", "0000");
        row(1).put("P2a").does("worlds() 2; holds(62) 1; holds(63) 1; holds(61) 0");

        Check.sentence(0, "E12 f: K1 f & K2 f;");
        four().where("E12(a|b)", "0001").where("E4b", "0011").where("E1b", "0011").where("E14b", "0011")
            .where("E24b", "0000").where("E1234(a>a)", "1111").where("E123(a|b)", "0000").where("{a}E12a", "0101");
        row(1).put("E12~a").does("worlds() 62; holds(61) 1; holds(62) 0; holds(63) 0");

        Check.sentence(0, "D12 f: f holds in all that are there of both cells of it;");
        four().where("D12(a&b)", "0001").where("D3(a|b)", "0000").where("D13b", "0011").where("D123a", "0101")
            .where("D1a", "0000").where("D120", "0000").where("{a|b}D3(a|b)", "0111").where("D4a", "0101");
        row(1).put("D12a").does("worlds() 1; holds(63) 1");
        row(1).where("D4a", "0".repeat(63) + "1").where("D2a", "0".repeat(64)).where("D1234~a", "1".repeat(63) + "0");
    }

    private static void common() {
        Check.sentence(0, "C12 f: in all that can be come to by going, once or more often, from a world to one in a"
            + " cell of it, of 1 or of 2, among those that are there;");
        four().where("C12(a|b)", "0000").where("C1b", "0011").where("C24a", "0101").where("C4a", "0101")
            .where("C1234(a>a)", "1111").where("C10", "0000").where("{a=b}C12(a=b)", "1001")
            .where("{a=b}C12a", "0001").where("{a=b}C123a", "0000").where("{a|b}C1a", "0100");
        // It takes 63 goings from one end of the row to the other, and none leads past a world that is gone.
        row(1).where("C12~a", "0".repeat(64));
        row(1).put("C1~a").does("worlds() 63; holds(62) 1; holds(63) 0")
            .put("C2~a").does("worlds() 62; holds(61) 1; holds(62) 0; holds(63) 0");
        row(0).does("atom(30, 1, true)").put("{~b}C12~b").does("worlds() 63")
            .does("atom(63, 0, true)").put("{~b}C12~a").does("worlds() 30; holds(29) 1; holds(31) 0")
            .put("C12~a").does("worlds() 0").put("C34~a").does("worlds() 63");
        // The world itself is one of them, also when it is alone.
        new Run("world(0); world(1)").where("C1a", "01").where("C1234a", "01");
    }

    private static void saying() {
        Check.sentence(0, "[f] g, if f does not hold, or g holds with just those there in which f holds;");
        four().where("[a|b]K1b", "1011").where("[a|b]a", "1101").where("[0]0", "1111").where("[1]a", "0101")
            .where("[a|b][~K1b]K2 ~b", "1111").where("K3[a|b]K3(a|b)", "1111").where("[a|b]K3a", "1000")
            .where("[a]~[b]K3b", "1010").where("[a]K3b&~K3b", "1010").where("[~a][a]0", "1111");
        // What is said ends behind its one: the others are there again.
        four().where("[a]1&P3~a", "1111").where("([a]K3a)&K3a", "0000").where("[[a]b]K3(a>b)", "1111")
            .where("[{a}b]K1a", "1111").where("[a]K3a=K3a", "0000");

        Check.sentence(0, "{f} g: f holds, and so does g with just those.");
        four().where("{a|b}K1b", "0011").where("{0}1", "0000").where("{1}a", "0101").where("{a}1", "0101")
            .where("{a|b}{~K1b}K2 ~b", "0100").where("{a}K3a", "0101").where("{a}1|P3~a", "1111")
            .where("{a}~{b}1", "0100").where("~{a}K3a", "1010");
    }

    private static void holds() {
        Check.sentence(10, "Whether the formula at hand holds in a world (1 or 0), all being there.");
        four().put("[a]K3a").does("holds(0) 1; holds(1) 1; holds(3) 1").put("K3a").does("holds(1) 0; holds(0) 0");
        // What is otherwise since is seen, whichever call it came by.
        new Run("world(0); world(1); tie(1, 0, 1)").put("K1a").does("holds(1) 0; alone(1, 0); holds(1) 1;"
            + "tie(1, 0, 1); holds(1) 0; atom(0, 0, true); holds(1) 1; holds(0) 1; world(0) 2; holds(2) 0;"
            + "tie(1, 2, 1); holds(0) 0").put("a").does("say() 2").put("K1a").does("holds(0) 1; back() 3; holds(0) 0");
        new Run("world(1)").put("a").does("event(); holds(0) 1").put("0").does("change(0, 0); holds(0) 0")
            .put("a").does("holds(0) 1; happen() 1; holds(0) 0; back() 1; holds(0) 1").put("[1]~a")
            .does("holds(0) 0; reduce() 6; holds(0) 0");

        Check.sentence(10, "BAD: none such.");
        new Run("holds(0) BAD; world(0); holds(1) BAD; holds(-1) BAD; holds(MIN) BAD; holds(MAX) BAD; holds(64) BAD; holds(0) 1");
        row(1).does("holds(64) BAD; holds(63) 1; holds(-1) BAD");
    }

    private static void worlds() {
        Check.sentence(11, "In how many worlds it holds.");
        new Run("worlds() 0").put("0").does("worlds() 0").put("[0]0").does("worlds() 0; world(0); worlds() 1");
        row(1).does("worlds() 64").put("a").does("worlds() 1").put("~a").does("worlds() 63").put("0").does("worlds() 0");
        four().put("a|b").does("worlds() 3; say() 3; worlds() 3; back() 4; worlds() 3; atom(0, 0, true); worlds() 4");
    }

    private static void tell() {
        Check.sentence(12, "The formula at hand as a text comes to hand, to be told by letter(): no blanks;");
        new Run().put(" K 1 ( a > ~ 0 ) ").tells("K1(a>~0)");
        new Run().put("a&b").does("letter(0) NONE; tell() 3; letter(0) 'a'; letter(2) 'b'");
        new Run().tells("1");
        new Run().put("E1234C123D14K4P1h").tells("E1234C123D14K4P1h");

        Check.sentence(12, "brackets around = > | & within others, but for a whole formula and what stands in [ ] and { }:");
        for (char join : "=>|&".toCharArray()) {
            String joined = "a" + join + "b";
            new Run().put("((" + joined + "))").tells(joined);
            for (String before : new String[] {"~", "K1", "P2", "E12", "C34", "D1", "[c]", "{c}", "c=", "c>", "c|", "c&"}) {
                new Run().put(before + "(" + joined + ")").tells(before + "(" + joined + ")");
            }
            for (String after : new String[] {"=c", ">c", "|c", "&c"}) {
                new Run().put("(" + joined + ")" + after).tells("(" + joined + ")" + after);
            }
            new Run().put("[(" + joined + ")]c").tells("[" + joined + "]c");
            new Run().put("{(" + joined + ")}(" + joined + ")").tells("{" + joined + "}(" + joined + ")");
            new Run().put("[{" + joined + "}c&d]e").tells("[{" + joined + "}c&d]e");
            new Run().put("[~(" + joined + ")]c").tells("[~(" + joined + ")]c");
        }
        new Run().put("(a)&(~b)").tells("a&~b");
        new Run().put("((a&b)&c)|([d]e)").tells("((a&b)&c)|[d]e");
        new Run().put("K1(K2a)&([a=b]c)").tells("K1K2a&[a=b]c");
    }

    /** No formula that can be at hand has so many signs as are told: so all of them are. */
    private static void longest() {
        Check.sentence(12, "how many signs, at most 20,000 (the others are left out).");
        new Run("tell() 1").put("a>b").does("tell() 3").put("C1234a").does("tell() 6").put("(~(a))").does("tell() 2");
        String joined = "a&".repeat(74) + "a";
        new Run().put(joined).tells("(".repeat(73) + "a&a" + ")&a".repeat(73)).does("letter(294) 'a'; letter(295) NONE");
        String[] great = {"[~(" + "a|".repeat(18) + "a)](" + "b&".repeat(40) + "~".repeat(8) + "b)",
            "[a&b]K1[b|c]K2[c&a]K3[K1a]K2[P1b]K1a", "[a][b][c][d][e][f][g][h][a]K1b"};
        for (String text : great) {
            PlainRoom plain = new PlainRoom();
            for (char c : text.toCharArray()) {
                plain.type(c);
            }
            plain.formula();
            Run run = new Run().put(text).does("reduce() " + plain.reduce());
            int size = plain.tell();
            run.does("tell() " + size + "; letter(" + size + ") NONE; letter(" + (size - 1) + ") " + plain.letter(size - 1));
            for (int i = 0; i < size; i += 1 + size / 300) {
                run.does("letter(" + i + ") " + plain.letter(i));
            }
        }
    }

    private static void letter() {
        Check.sentence(13, "The i-th sign of the text told last.");
        new Run().put("K1a&b").does("tell() 5; letter(0) 'K'; letter(1) '1'; letter(2) 'a'; letter(3) '&'; letter(4) 'b'")
            .put("~c").does("letter(3) '&'; letter(4) 'b'; tell() 2; letter(0) '~'; letter(1) 'c'")
            .put("c&").does("letter(1) 'c'").put("[a]b").does("tell() 4; reduce() 3; letter(0) '['; tell() 3; letter(1) '>'");

        Check.sentence(13, "NONE: none such.");
        new Run("letter(0) NONE; letter(-1) NONE; tell() 1; letter(0) '1'; letter(1) NONE; letter(-1) NONE;"
            + "letter(MIN) NONE; letter(MAX) NONE; letter(20000) NONE; letter(4000) NONE; letter(3999) NONE")
            .put("a&b").does("tell() 3; letter(2) 'b'; letter(3) NONE").put("a").does("letter(2) 'b'; tell() 1; letter(1) NONE; letter(2) NONE");
    }

    public static void main(String[] args) {
        plain();
        knowing();
        common();
        saying();
        holds();
        worlds();
        tell();
        longest();
        letter();
        Check.end();
    }
}
