/** Formulas without saying that mean the same; promise 23: reduce, sentence by sentence. */
public final class ReducingTest {
    private ReducingTest() {
    }

    private static int nodesOf(String text) {
        int nodes = 0;
        for (char c : text.toCharArray()) {
            nodes += "abcdefgh0=>|&~KP".indexOf(c) >= 0 ? 1 : 0;
        }
        return nodes;
    }

    /** Looks what a formula becomes; a text with the leaf 1 in it is not counted right here. */
    private static void becomes(String text, String due) {
        int nodes = nodesOf(due);
        new Run().put(text).does("reduce() " + nodes + "; count(2) " + nodes).tells(due).does("reduce() " + nodes);
    }

    /** [f] of many b joined, some of them behind ~: each b, each join and each ~ is known to make so many. */
    private static String great(int joins, int nots) {
        return "[~(" + "a|".repeat(18) + "a)](" + "b&".repeat(joins) + "~".repeat(nots) + "b)";
    }

    private static void order() {
        Check.sentence(0, "REDUCING: a formula without E, C, D becomes one without [ ] and { } by these rules, again and"
            + " again, always at the first place from the left where one fits that has no [ ] or { } within:");
        becomes("a&K1b", "a&K1b");
        becomes("[a][b]c", "(a>b)>(a>c)");
        becomes("[[a]b]c", "(a>b)>c");
        becomes("[a|b]K1[c]d", "(a|b)>K1(((a|b)>c)>((a|b)>d))");
        becomes("~[a]b&K1{b}0", "~(a>b)&K1~(b>~(b>0))");
        becomes("{[a]b}P1~c", "~((a>b)>~((a>b)>P1((a>b)&((a>b)>~((a>b)>c)))))");
        becomes("[a]b|[c]d", "(a>b)|(c>d)");
        becomes("[a][b][c]d", "((a>b)>(a>c))>((a>b)>(a>d))");
        becomes("[{a}b]~c", "~(a>~(a>b))>~(~(a>~(a>b))>c)");
    }

    private static void rules() {
        Check.sentence(0, "{f} g becomes ~[f]~g.");
        becomes("{a}b", "~(a>~(a>b))");
        becomes("{a&b}(c|d)", "~((a&b)>~(((a&b)>c)|((a&b)>d)))");
        becomes("{a}{b}c", "~(a>~(a>~((a>b)>(a>~((a>b)>(a>c))))))");

        Check.sentence(0, "[f] of an ATOM p, 0 or 1: f > p (0, 1).");
        for (char atom = 'a'; atom <= 'h'; atom++) {
            becomes("[c=d]" + atom, "(c=d)>" + atom);
        }
        becomes("[a]0", "a>0");
        becomes("[0]a", "0>a");
        new Run().put("[a]1").does("reduce() 3").tells("a>1");
        new Run().put("[1]0").does("reduce() 3").tells("1>0");

        Check.sentence(0, "[f]~g: f > ~[f] g.");
        becomes("[a]~b", "a>~(a>b)");
        becomes("[a]~~b", "a>~(a>~(a>b))");
        becomes("[~a]~(b&c)", "~a>~((~a>b)&(~a>c))");

        Check.sentence(0, "[f](g & h): [f] g & [f] h; likewise of |, >, =.");
        for (char join : "&|>=".toCharArray()) {
            becomes("[a](b" + join + "c)", "(a>b)" + join + "(a>c)");
            becomes("[a]((b" + join + "c)" + join + "~d)", "((a>b)" + join + "(a>c))" + join + "(a>~(a>d))");
        }

        Check.sentence(0, "[f] K g: f > K [f] g.");
        for (int agent = 1; agent <= 4; agent++) {
            becomes("[a]K" + agent + "b", "a>K" + agent + "(a>b)");
        }
        becomes("[K1a]K2K3b", "K1a>K2(K1a>K3(K1a>b))");

        Check.sentence(0, "[f] P g: f > P(f & [f] g).");
        for (int agent = 1; agent <= 4; agent++) {
            becomes("[a]P" + agent + "b", "a>P" + agent + "(a&(a>b))");
        }
        becomes("[P1a]P2P3b", "P1a>P2(P1a&(P1a>P3(P1a&(P1a>b))))");
    }

    private static void size() {
        Check.sentence(0, "It has more than 2,000 NODES then: GREAT.");
        // [f] of n atoms joined becomes f > b for each: n * (|f| + 2) + n - 1 NODES.
        for (int n = 2; n <= 60; n++) {
            for (int f = 1; f <= 75 - n; f++) {
                int due = n * (2 * f - 1 + 2) + n - 1;
                String text = "[" + "a&".repeat(f - 1) + "a](" + "b|".repeat(n - 1) + "b)";
                if (text.length() <= 200) {
                    new Run().put(text).does("reduce() " + (due > 2000 ? KnowledgeRoom.GREAT : due));
                }
            }
        }
        // Each ~ is one more f > ~, of 40 NODES here, as is each b with its join.
        new Run().put(great(39, 9)).does("reduce() 1999; count(2) 1999; reduce() 1999");
        new Run().put(great(40, 8)).does("reduce() 2000; count(2) 2000; reduce() 2000");
        new Run().put("~" + great(39, 9)).does("reduce() 2000");
        new Run().put("~" + great(40, 8)).does("reduce() GREAT");
        new Run().put("K1" + great(40, 8)).does("reduce() GREAT");
        new Run().put("a&" + great(39, 9)).does("reduce() GREAT");
        new Run().put("{a}" + great(39, 9)).does("reduce() GREAT");
        new Run().put("[a]b&" + great(39, 9)).does("reduce() GREAT");
        new Run().put(great(39, 9) + "&[a]b").does("reduce() GREAT");
        new Run().put(great(41, 7)).does("reduce() GREAT");
        // What becomes far too great on the way is too great at the end.
        new Run().put("[a=b]".repeat(20) + "K1~c").does("reduce() GREAT");
        new Run().put("{a=b}".repeat(20) + "P1~c").does("reduce() GREAT");
        new Run().put("[".repeat(15) + "a" + "]~b".repeat(15)).does("reduce() GREAT");
    }

    private static void reduce() {
        Check.sentence(23, "The formula at hand becomes what it is REDUCED to: how many NODES it has.");
        new Run("world(0); world(1); world(2); world(3); tie(1, 0, 1); tie(2, 1, 2); tie(1, 2, 3); tie(3, 0, 3)")
            .where("[a|b]K1[~K2a]P3b", meaning()).does("reduce()").does("worlds() " + ones(meaning()))
            .does("count(5) 3; say() " + ones(meaning()));
        new Run("reduce() 1").put("a>b").does("reduce() 3; count(2) 3").tells("a>b");
        new Run().put("[a]K1b").does("count(2) 4; reduce() 6; count(2) 6; count(5) 1; decide(0) 1; decide(2) 3");
        new Run().put("{a}P1b").does("decide(0) BAD; reduce() 12; decide(0) 1; decide(1) 0");

        refused();

        Check.sentence(23, "(A formula at hand may have more than 150 NODES so.)");
        new Run("world(3); world(1)").put("[a](" + "b|".repeat(37) + "b)").does("reduce() 151; count(2) 151; worlds() 1; holds(0) 1;"
            + "holds(1) 0; tell() 299; letter(298) ')'; decide(1) 0; decide(2) 2; event() BAD; reduce() 151; say() 1; count(0) 1")
            .put("a").does("count(2) 1");
        new Run("world(0); world(2)").put(great(40, 8)).does("worlds() 1; reduce() 2000; worlds() 1; holds(0) 0; holds(1) 1;"
            + "count(5) 0; decide(0) 1; decide(2) 2; say() 1; back() 2; event() BAD");
    }

    private static void refused() {
        String[] unfit = {"E1a", "C12a", "D1a", "[a]E1b", "[C1a]b", "{D1a}0", "K1(a&~E4b)", "[a]b&D1234c"};
        String great = "[a=b]K1[a&b]K1[b|c]K2[c&a]K3[K1a]K2[P1b]K1~a";

        Check.sentence(23, "BAD: E, C or D is in it;");
        for (String text : unfit) {
            new Run().put(text).does("reduce() BAD");
        }
        for (String sign : new String[] {"E1", "E1234", "C1", "C1234", "D1", "D1234"}) {
            new Run().put(sign + "a&" + great(40, 6)).does("reduce() BAD").put(great(40, 6) + "&" + sign + "a").does("reduce() BAD")
                .put("[" + sign + "1]0").does("reduce() BAD").put("~".repeat(29) + sign + "1").does("reduce() BAD");
        }

        Check.sentence(23, "GREAT: it has more than 2,000");
        new Run().put(great).does("reduce() GREAT").put(great(40, 8)).does("reduce() 2000").put("~" + great(40, 8)).does("reduce() GREAT");

        Check.sentence(23, "(changing nothing in both).");
        for (String text : unfit) {
            new Run("world(1); world(2)").put(text).changesNothing("reduce() BAD; reduce() BAD").tells(text);
        }
        new Run("world(1); world(2)").put(great).changesNothing("reduce() GREAT; reduce() GREAT").tells(great);
        new Run("world(1); world(2)").put("~" + great(40, 8)).changesNothing("reduce() GREAT; reduce() GREAT");
        new Run().put("[a]E1b", 4).does("reduce() BAD").put("[a]b").does("reduce() 3");
        new Run().put(great).does("reduce() GREAT").put("[a]b").does("reduce() 3").tells("a>b");
        // Nothing of what was too great is left, also if it was so many times.
        Run often = new Run().put("{a=b}".repeat(10) + "P1~c" + "|a".repeat(40), 123);
        for (int i = 0; i < 20; i++) {
            often.does("reduce() GREAT");
        }
        often.put("[a](b&c&d&e&f&g)").does("reduce() 23").tells("(((((a>b)&(a>c))&(a>d))&(a>e))&(a>f))&(a>g)");
    }

    /** Where [a|b]K1[~K2a]P3b holds in the four worlds, by hand. */
    private static String meaning() {
        // a|b: worlds 1 2 3 are there, and 2 can't tell 1 from 2, 1 can't tell 2 from 3. K2a holds in 3
        // alone; then 1 and 2 are there, and P3b holds in 2 alone. K1 of that: not in 1, and in 2 and 3.
        return "1011";
    }

    private static int ones(String bits) {
        return bits.length() - bits.replace("1", "").length();
    }

    public static void main(String[] args) {
        order();
        rules();
        size();
        reduce();
        Check.end();
    }
}
