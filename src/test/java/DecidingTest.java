/** Whether a formula can hold at all; promises 24 and 25: decide, count, sentence by sentence. */
public final class DecidingTest {
    private static final int BAD = KnowledgeRoom.BAD;
    private static final int GREAT = KnowledgeRoom.GREAT;
    private static final String ATOMS = "a&b&c&d&e&f&g&h";

    // The longest that a formula and what is asked of it may take.
    private static final int CALLS = 60;
    private static Run used = new Run();

    private DecidingTest() {
    }

    /** Looks at decide(0) .. decide(5) of a formula, by a new object and by one that has decided others. */
    private static void decides(String text, int... due) {
        if (used.calls() > Run.MOST_CALLS - CALLS) {
            used = new Run();
        }
        for (Run run : new Run[] {new Run(), used}) {
            run.put(text);
            for (int what = 0; what < 6; what++) {
                run.does("decide(" + what + ") " + due[what]);
            }
        }
    }

    private static void bad(String text) {
        decides(text, BAD, BAD, BAD, BAD, BAD, BAD);
    }

    private static void great(String text) {
        decides(text, GREAT, GREAT, GREAT, GREAT, GREAT, GREAT);
    }

    private static void baseOf(String text, int due) {
        new Run().put(text).does("decide(2) " + due);
    }

    private static void terms() {
        Check.sentence(0, "DECIDING, for formulas without D, [ ], { }: E is taken as K of each, joined by & from the left, P as ~K~.");
        decides("E12a=K1a&K2a", 1, 1, 3, 5, 5, 5);
        decides("E1a=K1a", 1, 1, 2, 3, 3, 3);
        decides("P1a=~K1~a", 1, 1, 2, 3, 3, 3);
        decides("P1a&K1~a", 0, 0, 2, 3, 3, 0);
        baseOf("E1234a", 5);
        // One K of E more is in the base just if what it is taken as is not there yet.
        baseOf("K1E123a", 5);
        baseOf("K1E123a&K1(K1a&K2a&K3a)", 5);
        baseOf("K1E123a&K1(K1a&(K2a&K3a))", 6);
        baseOf("K1E123a&K1(K3a&K2a&K1a)", 6);
        baseOf("K2P1a&K2~K1~a", 3);
        baseOf("K2P1a&K2~K1a", 5);
        baseOf("P1P2a", 3);

        Check.sentence(0, "The BASE: its ATOMS, all its K formulas, its C formulas, and for each of these, of a GROUP, K of each"
            + " agent of it of that formula (alike ones once).");
        baseOf("1", 0);
        baseOf("0>~1", 0);
        baseOf("a", 1);
        baseOf(ATOMS, 8);
        baseOf("a&~a|a", 1);
        baseOf("K1a&K1a", 2);
        baseOf("K1a&K2a", 3);
        baseOf("K11", 1);
        baseOf("K1~~a&K1a", 3);
        baseOf("K1(a&b)=K1(b&a)", 4);
        baseOf("K1K2K1a", 4);
        baseOf("C1a", 3);
        baseOf("C4a", 3);
        baseOf("C12a", 4);
        baseOf("C24a", 4);
        baseOf("C1234a", 6);
        baseOf("C1234(a|b|c)", 8);
        baseOf("C12a&K1C12a&K2C12a", 4);
        baseOf("C12a&K3C12a", 5);
        baseOf("C12a&E12C12a&C12a", 4);
        baseOf("C1a&C12a", 6);
        baseOf("C1C1a", 5);
        baseOf("E12E12a", 5);

        Check.sentence(0, "At most 13 in all, else GREAT.");
        baseOf(ATOMS + "&K1a&K2a&K3a&K4a&K1b", 13);
        great(ATOMS + "&K1a&K2a&K3a&K4a&K1b&K2b");
        baseOf("C1234a&C1234b&c", 13);
        great("C1234a&C1234b&c&d");
        great("C1234a&C1234b&C1c");
        baseOf("K1".repeat(12) + "a", 13);
        great("K1".repeat(13) + "a");
        baseOf("P1".repeat(12) + "a", 13);
        great("P1".repeat(13) + "a");
        baseOf("E1234E1234E1234a", 13);
        great("E1234E1234E1234a&b");
        great("E1234E1234E1234E1234a");
        baseOf("E1234E1234E1234a&E1234E1234a&E1a", 13);
        great("E1234".repeat(30) + "a");
        great("C1234".repeat(30) + "a");
    }

    private static void types() {
        Check.sentence(0, "A TYPE tells of each one in the BASE whether it holds, so that: if K f holds, so does f; if C f holds,"
            + " f does, and so does K of C f for each of the GROUP.");
        decides("1", 1, 1, 0, 1, 1, 1);
        decides("a", 1, 0, 1, 2, 2, 1);
        decides(ATOMS, 1, 0, 8, 256, 256, 1);
        decides("K1a", 1, 0, 2, 3, 3, 1);
        decides("K1a&K2a", 1, 0, 3, 5, 5, 1);
        decides("K10", 0, 0, 1, 1, 1, 0);
        decides("C1a", 1, 0, 3, 3, 3, 1);
        decides("C12a", 1, 0, 4, 3, 3, 1);
        decides("C1234a", 1, 0, 6, 3, 3, 1);
        decides("C10", 0, 0, 2, 1, 1, 0);
        decides("C12a>K1K2K1a", 1, 1, 7, 9, 6, 6);
        // Of an agent that is not in the group, K of C f need not hold.
        decides("C12a&K3C12a", 1, 0, 5, 4, 4, 1);
        decides("C12a>K3C12a", 1, 0, 5, 4, 4, 3);
        new Run().put(ATOMS + "&K1a&K2a&K3a&K4a&K1b").does("decide(3) " + 64 * 17 * 3 + "; decide(4) " + 64 * 17 * 3
            + "; decide(5) 1; decide(0) 1; decide(1) 0");

        Check.sentence(0, "(Of formulas that are not in the BASE it follows.)");
        decides("a|~a", 1, 1, 1, 2, 2, 2);
        decides("a&~a", 0, 0, 1, 2, 2, 0);
        decides("a=b", 1, 0, 2, 4, 4, 2);
        decides("a>b", 1, 0, 2, 4, 4, 3);
        decides("a|b", 1, 0, 2, 4, 4, 3);
        decides("a&b", 1, 0, 2, 4, 4, 1);
        decides("~a", 1, 0, 1, 2, 2, 1);
        decides("0|a", 1, 0, 1, 2, 2, 1);
        decides("0", 0, 0, 0, 1, 1, 0);
        decides("E12a", 1, 0, 3, 5, 5, 1);
        decides("P1a", 1, 0, 2, 3, 3, 2);
        decides("K1(a=b)&a>b", 1, 1, 3, 6, 6, 6);

        Check.sentence(0, "TYPES go, again and again, until none does: one in which K1 f does not hold, if there is none left that"
            + " tells the same of all K1 formulas, and in which f does not hold;");
        decides("K11", 1, 1, 1, 2, 1, 1);
        decides("P11", 1, 1, 1, 1, 1, 1);
        decides("K1(a|~a)", 1, 1, 2, 4, 2, 2);
        decides("K4(a|~a)", 1, 1, 2, 4, 2, 2);
        decides("a>K1P1a", 1, 1, 3, 5, 3, 3);
        decides("K1P1a=P1a", 1, 1, 3, 5, 3, 3);
        decides("K1(a&b)=K1(b&a)", 1, 1, 4, 7, 5, 5);
        decides("K1K1K1K1a=K1a", 1, 1, 5, 6, 3, 3);
        // They go one behind the other: each K1 more is one round more.
        decides("K1".repeat(12) + "a", 1, 0, 13, 14, 3, 1);
        decides("K1K2a=K2K1a", 1, 0, 5, 10, 8, 6);
        // What one of them goes for may be that another went which is asked for later.
        decides("K2P1E12a", 1, 0, 5, 14, 7, 1);
        decides("K2P2P2C1a", 1, 0, 6, 12, 5, 3);

        Check.sentence(0, "one in which C f does not hold, if by going on among those that are left, from each to one that tells the"
            + " same of all K formulas of one agent of the GROUP, none is come to in which f does not hold.");
        decides("C11", 1, 1, 2, 2, 1, 1);
        decides("C1234(a|~a)", 1, 1, 6, 4, 2, 2);
        decides("C1a=K1a", 1, 1, 4, 5, 3, 3);
        decides("E12a&~C12a", 1, 0, 6, 9, 6, 1);
        decides("E12E12a&~C12a", 1, 0, 8, 15, 9, 1);
        decides("C12a>E12C12a", 1, 1, 4, 3, 3, 3);
        decides("C12(a>E12a)>(a>C12a)", 1, 1, 9, 12, 7, 7);
        // That C1C2a does not hold wants a type that is gone for C2a.
        decides("C12a=C1C2a", 1, 0, 8, 7, 5, 4);
        decides("C2~C1C2c", 1, 0, 7, 7, 5, 3);
        decides("C1~C2E2E13b", 1, 0, 8, 13, 8, 5);
        decides("C123P1C23a", 1, 0, 9, 8, 8, 3);
        decides("~((C2b&C1b)&((b&a)&C2b))&~C1E12(b&a)", 1, 0, 10, 26, 16, 11);
        decides("E12C123(a>c)>((K1c>C123a)=(b>P1b))", 1, 0, 13, 48, 45, 39);

        Check.sentence(0, "The formula CAN HOLD, if it holds by a TYPE that is left.");
        decides("~K1(a|~a)", 0, 0, 2, 4, 2, 0);
        decides("a&~K1P1a", 0, 0, 3, 5, 3, 0);
        decides("K1a&~a", 0, 0, 2, 3, 3, 0);
        decides("K1a&~K1K1a", 0, 0, 3, 4, 3, 0);
        decides("K1a&~K2K1a", 1, 0, 3, 4, 4, 1);
        decides("C12a&~K1K2K1a", 0, 0, 7, 9, 6, 0);
        decides("a&C12(a>E12a)&~C12a", 0, 0, 9, 12, 7, 0);
    }

    /** Formulas of very many parts, again and again: of what is always so, whatever is said, and of what is never so. */
    private static void large() {
        String nots = "~".repeat(20);
        Run run = new Run();
        while (run.calls() < Run.MOST_CALLS - CALLS) {
            run.put("[a][b][c]" + nots + "(d|~d)").does("reduce(); decide(0) 1; decide(1) 1; decide(2) 4; decide(3) 16; decide(5) 16");
            run.put("{a}{b}{c}" + nots + "(d&~d)").does("reduce(); decide(0) 0; decide(1) 0; decide(2) 4; decide(4) 16; decide(5) 0");
        }
    }

    private static void decide() {
        Check.sentence(24, "Of the formula at hand: 0 whether it CAN HOLD (1 or 0), 1 whether ~ of it can't (it is valid), 2 how many"
            + " are in the BASE, 3 TYPES at first, 4 TYPES that are left, 5 of these those by which it holds.");
        decides("K1a>a", 1, 1, 2, 3, 3, 3);
        decides("a>K1a", 1, 0, 2, 3, 3, 2);
        decides("~(K1a>a)", 0, 0, 2, 3, 3, 0);
        decides("~(a>K1a)", 1, 0, 2, 3, 3, 1);
        // It belongs to the formula at hand, whichever was decided before, and not to the worlds.
        new Run().put("[a]a").does("decide(1) BAD; reduce() 3; decide(1) 1").put("a&").does("decide(1) 1").put("a")
            .does("decide(1) 0; decide(2) 1").put("K1b&c").does("decide(2) 3; decide(5) 1; world(0); decide(0) 1; say() 0; decide(0) 1");
        new Run("decide(0) 1; decide(1) 1; decide(2) 0; decide(3) 1; decide(4) 1; decide(5) 1");
        large();

        Check.sentence(24, "BAD: D, [ ] or { } is in it,");
        for (String text : new String[] {"D1a", "[a]b", "{a}b", "K1D2b", "K1[a]b", "~{1}1", "a|b&C12D3(a>b)"}) {
            bad(text);
        }
        bad("D1a&" + ATOMS + "&K1a&K2a&K3a&K4a&K1b&K2b");
        bad("[1]0&" + "K1".repeat(13) + "a");

        Check.sentence(24, "another number;");
        for (String text : new String[] {"a", "D1a", "K1".repeat(13) + "a"}) {
            new Run("world(1)").put(text).changesNothing("decide(6) BAD; decide(-1) BAD; decide(7) BAD; decide(MIN) BAD; decide(MAX) BAD");
        }

        Check.sentence(24, "GREAT: the BASE is.");
        new Run("world(1)").put("K1".repeat(13) + "a").changesNothing("decide(0) GREAT; decide(1) GREAT; decide(2) GREAT;"
            + "decide(3) GREAT; decide(4) GREAT; decide(5) GREAT; decide(6) BAD").put("K1".repeat(12) + "a").does("decide(2) 13");
        great("C1234a&C123b&C12c");
    }

    private static void count() {
        Check.sentence(25, "0 worlds, 1 events, 2 NODES of the formula at hand, 3 signs collected, 4 what back() could undo, 5 how"
            + " deep K, P, E, C, D stand within each other in the formula at hand.");
        new Run("world(0); world(1); world(1); event(); event()").put("a").does("say() 2").put("[K1K2a]E12(P1D3b|C1a)&K4b")
            .does("type(97); count(0) 2; count(1) 2; count(2) 14; count(3) 1; count(4) 1; count(5) 3; formula() 1; count(2) 1; count(5) 0");
        for (String text : new String[] {"K1a", "P1a", "E1234a", "C12a", "D3a", "~K1~a", "K1a&K2b", "[K1a]K2b", "{a}P1b"}) {
            new Run().put(text).does("count(5) 1");
        }
        for (String text : new String[] {"K1K1a", "P1~K2a", "E12(a|P1b)", "C1[a]D2b", "D1[C2a]b", "K1{E1a}b", "a&K1(K2a=b)", "K1a&K1K1b",
                "K1K1b&K1a", "[K1K1a]K1b"}) {
            new Run().put(text).does("count(5) 2");
        }
        for (String text : new String[] {"a", "~a", "a&b", "[a]b", "{a}~b", "0"}) {
            new Run().put(text).does("count(5) 0");
        }
        new Run().put(("K1".repeat(30) + "(").repeat(3) + "a)))").does("count(5) 90; count(2) 91");
        new Run().put("[a]P1b").does("count(2) 4; reduce() 8; count(2) 8; count(5) 1").put("a&").does("count(2) 8");
        new Run().collect(" ".repeat(200)).does("count(3) 200; formula(); count(3) 0");

        Check.sentence(25, "BAD: another number.");
        new Run("world(1)").changesNothing("count(-1) BAD; count(6) BAD; count(7) BAD; count(MIN) BAD; count(MAX) BAD");
    }

    public static void main(String[] args) {
        terms();
        types();
        decide();
        count();
        Check.end();
    }
}
