/** What a formula is; promises 7 to 9: type, four, formula, sentence by sentence. */
public final class GrammarTest {
    private static final String LEAVES = "abcdefgh01";
    private static final String OPENING = "~KPECD[{(";
    private static final String[] PREFIXES = {"~", "K1", "P4", "E12", "C3", "D1234", "[a]", "{a}"};

    private GrammarTest() {
    }

    /** Looks at a text that is a formula, and at what it is. */
    private static void reads(String text, int nodes, String tells) {
        new Run().put(text, nodes).does("count(2) " + nodes).tells(tells);
    }

    private static void fault(String text, int place) {
        new Run().fault(text, place).does("count(2) 1; count(3) 0");
    }

    /**
     * Looks at a text with each sign behind it: those that end it well, so that it has so many nodes,
     * those that may come but want more, and all others, which can't come.
     */
    private static void next(String text, String ends, int nodes, String wantMore) {
        int size = text.length();
        Run run = new Run();
        for (char c = 33; c <= 126; c++) {
            boolean isEnd = ends.indexOf(c) >= 0;
            int place = wantMore.indexOf(c) >= 0 ? size + 1 : size;
            run.put(text + c, isEnd ? nodes : -10 - place);
        }
    }

    /** Looks at a text behind which a one must come. */
    private static void wantsOne(String text, int nodes, String orElse) {
        next(text, LEAVES, nodes, OPENING + orElse);
        fault(text + " ", text.length() + 1);
    }

    private static void signs() {
        Check.sentence(0, "A FORMULA is a text of at most 200 signs; blanks (32) are left out.");
        reads(" ".repeat(199) + "a", 1, "a");
        reads("a" + " ".repeat(199), 1, "a");
        String full = "E1234a&".repeat(28) + "E14a";
        new Run().collect(full).does("count(3) 200; type(97) BAD; formula() 86; count(5) 1");
        new Run().collect(full.substring(0, 199)).does("type(98) 200; type(98) BAD; formula() 86");
        new Run().collect("~".repeat(30)).collect(" ".repeat(170)).does("type(97) BAD; formula() -210");
        // As many NODES and as many signs as can be at once, each sign standing for itself.
        String dense = "~" + "(a&b)|c|".repeat(24) + "(a&b)|c";
        new Run().collect(dense).does("count(3) 200; formula() 150; count(2) 150");
        fault(dense.substring(0, 199) + ")", 199);
        reads("  K 1  a ", 2, "K1a");
        reads("  E 1 2  a ", 2, "E12a");
        reads("E1 1", 2, "E11");
        reads("C 1 3 4 0", 2, "C1340");
        reads(" [ a ] b", 3, "[a]b");
        reads(" { a & b } ( c > d ) ", 7, "{a&b}(c>d)");
        fault("a b", 2);
        fault("E 2 1 a", 6);
    }

    private static void joins() {
        Check.sentence(0, "formula: imp ['=' imp].");
        reads("a=b", 3, "a=b");
        reads("a>b=c>d", 7, "(a>b)=(c>d)");
        reads("(a=b)=c", 5, "(a=b)=c");
        reads("a=(b=c)", 5, "a=(b=c)");
        reads("[a=b]c=d", 7, "[a=b]c=d");
        fault("a=b=c", 3);
        fault("a=b&c=d", 5);
        fault("a=b>c=d", 5);
        fault("(a=b=c)", 4);
        fault("[a=b=c]d", 4);
        fault("a=[b=c]d=e", 8);
        fault("=a", 0);
        wantsOne("a=", 3, "");
        next("a=b", "", 0, ">|&");
        next("(a=b", ")", 3, ">|&");

        Check.sentence(0, "imp: or ['>' imp].");
        reads("a>b>c", 5, "a>(b>c)");
        reads("a>b>c>d", 7, "a>(b>(c>d))");
        reads("(a>b)>c", 5, "(a>b)>c");
        reads("a|b>c|d", 7, "(a|b)>(c|d)");
        reads("a>b|c>d", 7, "a>((b|c)>d)");
        reads("a>".repeat(74) + "a", 149, "a>(".repeat(73) + "a>a" + ")".repeat(73));
        fault(">a", 0);
        fault("a>>b", 2);
        wantsOne("a>", 3, "");

        Check.sentence(0, "or: and {'|' and}.");
        reads("a|b|c", 5, "(a|b)|c");
        reads("a|(b|c)", 5, "a|(b|c)");
        reads("a|b&c|d", 7, "(a|(b&c))|d");
        reads("a|".repeat(74) + "a", 149, "(".repeat(73) + "a|a" + ")|a".repeat(73));
        fault("|a", 0);
        fault("a||b", 2);
        wantsOne("a|", 3, "");

        Check.sentence(0, "and: one {'&' one}.");
        reads("a&b&c", 5, "(a&b)&c");
        reads("a&(b&c)", 5, "a&(b&c)");
        reads("a&b|c&d>e|f=g>h", 15, "(((a&b)|(c&d))>(e|f))=(g>h)");
        reads("a=b>c|d&e", 9, "a=(b>(c|(d&e)))");
        reads("a&".repeat(74) + "a", 149, "(".repeat(73) + "a&a" + ")&a".repeat(73));
        fault("&a", 0);
        fault("a&&b", 2);
        wantsOne("a&", 3, "");
    }

    private static void ones() {
        Check.sentence(0, "one: '~' one | 'K' AGENT one | 'P' AGENT one | 'E' GROUP one | 'C' GROUP one"
            + " | 'D' GROUP one | '[' formula ']' one | '{' formula '}' one | ATOM | '0' | '1' | '(' formula ')'.");
        wantsOne("", 1, "");
        next("a", "", 0, "=>|&");
        wantsOne("~", 2, "");
        for (String sign : new String[] {"K", "P"}) {
            next(sign, "", 0, "1234");
            wantsOne(sign + "1", 2, "");
            wantsOne(sign + "4", 2, "");
        }
        next("(a", ")", 1, "=>|&");
        next("[a", "", 0, "]=>|&");
        next("{a", "", 0, "}=>|&");
        next("(a)", "", 0, "=>|&");
        next("[a]b", "", 0, "=>|&");
        next("(", "", 0, LEAVES + OPENING);
        next("[", "", 0, LEAVES + OPENING);
        next("{", "", 0, LEAVES + OPENING);
        wantsOne("[a]", 3, "");
        wantsOne("{a}", 3, "");
        next("([{a", "", 0, "}=>|&");
        next("{[(a", "", 0, ")=>|&");
        next("{[(a)", "", 0, "]=>|&");
        reads("~~a", 3, "~~a");
        reads("~a&b", 4, "~a&b");
        reads("~(a&b)", 4, "~(a&b)");
        reads("K1a>b", 4, "K1a>b");
        reads("[a&b]c&d", 7, "[a&b]c&d");
        reads("[a&b](c&d)", 7, "[a&b](c&d)");
        reads("{a=b}~[c]K1d", 9, "{a=b}~[c]K1d");
        reads("[(a=b)=c][{d}e]f", 11, "[(a=b)=c][{d}e]f");
        reads("((((a))))", 1, "a");
        reads("K1P2E3C4D1a", 6, "K1P2E3C4D1a");
    }

    private static void groups() {
        Check.sentence(0, "GROUP: AGENTS, rising, as many as can be, but one at least (so E11 is E1 of 1).");
        for (String sign : new String[] {"E", "C", "D"}) {
            for (int set = 1; set < 16; set++) {
                String text = sign;
                for (int agent = 1; agent <= 4; agent++) {
                    text += (set >> agent - 1 & 1) != 0 ? agent : "";
                }
                reads(text + "a", 2, text + "a");
                reads(text + "1", 2, text + "1");
                reads(text + "0", 2, text + "0");
            }
            next(sign, "", 0, "1234");
            wantsOne(sign + "1", 2, "234");
            wantsOne(sign + "2", 2, "34");
            wantsOne(sign + "13", 2, "4");
            wantsOne(sign + "4", 2, "");
            wantsOne(sign + "1234", 2, "");
            fault(sign + "111", 3);
            fault(sign + "21a", 3);
            fault(sign + "132a", 3);
        }
        new Run("world(0); world(1); tie(1, 0, 1)").where("E11", "11").where("D11", "11").where("E1a", "00");
    }

    private static void nodes() {
        Check.sentence(0, "It has at most 150 NODES (each ATOM, 0, 1, ~, K, P, E, C, D, =, >, |, &, [ ], { }),");
        for (char leaf : LEAVES.toCharArray()) {
            reads(String.valueOf(leaf), 1, String.valueOf(leaf));
        }
        for (char join : "=>|&".toCharArray()) {
            reads("a" + join + "b", 3, "a" + join + "b");
        }
        for (String prefix : PREFIXES) {
            reads(prefix + "a", prefix.charAt(0) == '[' || prefix.charAt(0) == '{' ? 3 : 2, prefix + "a");
        }
        reads("((a))", 1, "a");
        String full = "~" + "a&".repeat(74) + "a";
        new Run().put(full, 150).does("count(2) 150");
        new Run().put("(" + full + ")", 150).put("K1(" + full.substring(1) + ")", 150);
        for (char join : "=>|&".toCharArray()) {
            fault(full + join + "b", 150);
            fault(full.substring(1) + join + "b", 150);
            String less = full.substring(3) + join + "b";
            new Run().put(less, 149).put("~" + less, 150).fault("~~" + less, 150);
        }
        for (String last : new String[] {"a", "h", "0", "1", "~a", "K1a", "P1a", "E1a", "C1a", "D1a", "[a]b", "{a}b"}) {
            fault("a&".repeat(75) + last, 150);
            int more = last.startsWith("[") || last.startsWith("{") ? 3 : last.length() > 1 ? 2 : 1;
            String before = "a&".repeat(73) + "~".repeat(4 - more);
            new Run().put(before + last, 150);
            String fills = "[{".indexOf(last.charAt(0)) >= 0 ? last.substring(0, 3) : last.substring(0, last.length() - 1);
            fault(before + fills + "~0", (before + fills + "~").length());
        }
    }

    private static void within() {
        Check.sentence(0, "and no formula is within more than 15 others (in [ ], { }, ( )),");
        reads("(".repeat(15) + "a" + ")".repeat(15), 1, "a");
        fault("(".repeat(16) + "a" + ")".repeat(16), 15);
        new Run().put("[".repeat(15) + "a" + "]b".repeat(15), 31).put("{".repeat(15) + "a" + "}b".repeat(15), 31)
            .fault("[".repeat(16) + "a" + "]b".repeat(16), 15).fault("{".repeat(16) + "a" + "}b".repeat(16), 15);
        String mixed = "([{".repeat(5);
        new Run().put(mixed + "a" + "}b]c)".repeat(5), 21).fault(mixed + "(a", 15).fault(mixed + "[a", 15)
            .fault(mixed + "{a", 15);
        // Those that are closed are none any more.
        String half = "(".repeat(15) + "a" + ")".repeat(15);
        new Run().put(half + "&" + half + "&" + half + "&" + half, 7).put("(a)&".repeat(40) + "a", 81)
            .put("[" + half.substring(1, 30) + "]" + half, 3).fault("[" + half + "]a", 15)
            .fault(half + "&(" + half + ")", 47);
        new Run().put("[a]".repeat(30) + "b", 61).put("[(a)](b)".repeat(1), 3);
        reads("(a&".repeat(15) + "b" + ")".repeat(15), 31, "a&(".repeat(14) + "a&b" + ")".repeat(14));
    }

    private static void behind() {
        Check.sentence(0, "no one stands right behind more than 30 others (each behind its ~, K .. D, ], }).");
        for (String prefix : PREFIXES) {
            int more = prefix.charAt(0) == '[' || prefix.charAt(0) == '{' ? 2 : 1;
            String nots = "~".repeat(29);
            new Run().put(nots + prefix + "a", 30 + more).put(nots + prefix + "(a)", 30 + more)
                .fault(nots + prefix + "~a", 30 + prefix.length())
                .fault(nots + "~" + prefix + "a", 30 + prefix.length())
                .fault(nots + "~" + prefix + "(a)", 30 + prefix.length())
                .fault(nots + "~" + prefix + "[a]b", 30 + prefix.length());
            int most = Math.min(30, 196 / prefix.length());
            new Run().put(prefix.repeat(most) + "a", most * more + 1);
        }
        new Run().fault("~".repeat(31) + "a", 31).fault("K1".repeat(31) + "a", 62).fault("[a]".repeat(31) + "a", 93);
        // In brackets, and behind a join, it begins anew.
        String ones = "~".repeat(30);
        new Run().put(ones + "(" + ones + "a)", 61).put("[" + ones + "a]~b", 34)
            .put("~".repeat(29) + "[" + ones + "a]b", 62).put("[" + ones + "a]" + "~".repeat(29) + "b", 62)
            .fault("[" + ones + "a]" + ones + "b", 63).fault("(" + ones + "~a)", 32)
            .put(ones + "(a)&" + ones + "b", 63);
        for (char join : "=>|&".toCharArray()) {
            new Run().put(ones + "a" + join + ones + "b", 63).fault(ones + "a" + join + ones + "~b", 63);
        }
    }

    private static void type() {
        Check.sentence(7, "A sign is collected: how many there are.");
        Run run = new Run();
        for (int c = 32; c <= 126; c++) {
            run.does("type(" + c + ") " + (c - 31));
        }
        run.does("count(3) 95; formula() -11; type(97) 1; type(32) 2; count(3) 2; formula() 1");

        Check.sentence(7, "BAD: not 32 .. 126,");
        new Run("type(97) 1").changesNothing("type(31) BAD; type(127) BAD; type(0) BAD; type(-1) BAD; type(128) BAD;"
            + "type(255) BAD; type(256) BAD; type(65633) BAD; type(353) BAD; type(-159) BAD; type(MIN) BAD; type(MAX) BAD")
            .does("type(32) 2; type(126) 3");

        Check.sentence(7, "there are 200.");
        run = new Run();
        for (int i = 1; i <= 200; i++) {
            run.does("type(" + (i % 2 == 0 ? 32 : 126) + ") " + i);
        }
        run.does("type(97) BAD; type(32) BAD; count(3) 200; formula(); type(97) 1");
        for (int i = 0; i < 199; i++) {
            run.does("type(32)");
        }
        run.does("count(3) 200; type(98) BAD; formula() 1");
    }

    private static void fourCall(Run run, String signs, String due) {
        run.does("four(" + Run.four(signs) + ") " + due);
    }

    private static void four() {
        Check.sentence(8, "Four signs come, the highest of the number first, those that are 0 left out:"
            + " how many there are.");
        Run run = new Run("four(0) 0");
        fourCall(run, "K1~a", "4");
        run.does("formula() 3").tells("K1~a");
        fourCall(run, "\0a\0\0", "1");
        fourCall(run, ">\0\0b", "3");
        fourCall(run, "\0\0>c", "5");
        fourCall(run, "\0\0\0\0", "5");
        fourCall(run, "\0|\0d", "7");
        fourCall(run, "&  \0", "10");
        fourCall(run, "\0\0\0e", "11");
        run.does("type(32) 12; formula() 9").tells("a>(b>(c|(d&e)))");
        fourCall(run, "~ ~ ", "4");

        Check.sentence(8, "BAD, changing nothing: a sign that is none,");
        run = new Run("type(97) 1");
        for (char none : new char[] {1, 10, 31, 127, 128, 225, 255}) {
            fourCall(run, none + "bcd", "BAD");
            fourCall(run, "&" + none + "bc", "BAD");
            fourCall(run, "&b" + none + "c", "BAD");
            fourCall(run, "&b " + none, "BAD");
            fourCall(run, "\0\0\0" + none, "BAD");
        }
        run.does("four(-1) BAD; four(MIN) BAD; count(3) 1");
        fourCall(run, "\0 \0~", "3");
        run.does("formula() -12");

        Check.sentence(8, "no room for all of them.");
        for (int left = 0; left <= 4; left++) {
            run = new Run().collect(" ".repeat(199 - left)).collect("a");
            for (int many = 0; many <= 4; many++) {
                if (many > left) {
                    fourCall(run, "abcd".substring(0, many), "BAD");
                    fourCall(run, "abcd".substring(0, many) + "\0".repeat(4 - many), "BAD");
                }
            }
            run.does("count(3) " + (200 - left) + "; four(0) " + (200 - left));
            fourCall(run, " ".repeat(left) + "\0".repeat(4 - left), "200");
            fourCall(run, "\0 \0\0", "BAD");
            run.does("type(32) BAD; four(0) 200; count(3) 200; formula() 1").tells("a");
        }
    }

    private static void formula() {
        Check.sentence(9, "What was collected, which is gone then, becomes the formula at hand: how many NODES it has;");
        new Run().put("K1a|b", 4).does("count(3) 0; count(2) 4").tells("K1a|b").does("formula() -10");
        new Run().put("a", 1).put("&b", -10).does("count(3) 0").put("b", 1).tells("b");
        new Run().put("a&", -12).does("count(3) 0").put("b", 1).tells("b");
        new Run("world(1)").where("a", "1").where("~a", "0");

        Check.sentence(9, "- 10 less the place (from 0) of its first sign that can't come");
        new Run().put(")", -10).put("a)", -11).put("a b", -12).put("ab)", -11).put("K5", -11)
            .put("K12a", -12).put("E21a", -13).put("a=b=a", -13).put("(a]", -12).put("  )", -12)
            .put("a&@b&)", -12).put(" ".repeat(199) + ")", -209).put("a" + " ".repeat(198) + "b", -209);

        Check.sentence(9, "(how many signs there are, if it ends too early;");
        new Run().put("", -10).put(" ", -11).put("a&", -12).put("a& ", -13).put("(a", -12).put("(a  ", -14)
            .put("K", -11).put("K ", -12).put("E1", -12).put("E12", -13).put("[a", -12).put("[a]", -13)
            .put("{a} ", -14).put("~", -11).put("~".repeat(31), -41).put("a=", -12).put("(((", -13)
            .put(" ".repeat(200), -210).put("(a" + " ".repeat(198), -210).put("~".repeat(30) + " ".repeat(170), -210);
        new Run().put("(" + "a|".repeat(74) + "a", -10 - 150).put("(~" + "a|".repeat(74) + "a", -10 - 151)
            .put("~" + "a|".repeat(74), -10 - 149).put("a|".repeat(75), -10 - 150);

        Check.sentence(9, "one NODE too many,");
        String full = "~" + "a|".repeat(74) + "a";
        fault("a&".repeat(75) + "a", 150);
        fault("a>".repeat(75) + "K1a", 150);
        fault("a>".repeat(75) + "  K5a", 152);
        fault("a>".repeat(75) + "E", 150);
        fault("a&".repeat(75) + "[", 150);
        fault("a&".repeat(75) + "(b", 151);
        fault("a&".repeat(75) + "x", 150);
        fault(full + "&b", 150);
        fault(full + " &b", 151);
        fault(full + "b", 150);
        fault(full + " )", 151);
        fault("~" + "a|".repeat(73) + "a& ~b", 151);

        Check.sentence(9, "one too deep: its first sign;");
        fault("~".repeat(31) + "a", 31);
        fault("~".repeat(31) + " (a)", 32);
        fault("~".repeat(31) + ")", 31);
        fault("K1".repeat(31) + " K5", 63);
        fault("a&" + "~".repeat(31) + "a", 33);

        Check.sentence(9, "a formula too deep: the [ { or ( before it):");
        for (String bracket : new String[] {"(", "[", "{"}) {
            fault("(".repeat(15) + bracket + "a", 15);
            fault("[".repeat(15) + bracket, 15);
            fault("{".repeat(15) + "  " + bracket + "a", 17);
            fault("(".repeat(15) + "a&" + bracket + "a", 17);
            fault("(".repeat(15) + bracket + ")", 15);
        }

        Check.sentence(9, "the one at hand stays then.");
        Run run = new Run("world(1); world(2)").put("K1a|b", 4);
        for (String text : new String[] {"", "a&", "a)", "(b", "a&".repeat(75) + "a", "~".repeat(31) + "a", "(".repeat(16)}) {
            run.put(text).does("count(2) 4; count(5) 1; worlds() 2; decide(2) 3");
        }
        run.tells("K1a|b");
        new Run().put("b&").tells("1").does("world(0); holds(0) 1");
    }

    public static void main(String[] args) {
        signs();
        joins();
        ones();
        groups();
        nodes();
        within();
        behind();
        type();
        four();
        formula();
        Check.end();
    }
}
