/** Worlds that are alike; promises 21 and 22: contract, differ, sentence by sentence. */
public final class AlikeTest {
    private AlikeTest() {
    }

    private static Run worlds(int... atoms) {
        Run run = new Run();
        for (int one : atoms) {
            run.does("world(" + one + ")");
        }
        return run;
    }

    /** Worlds in a row, of which two agents in turn can't tell the neighbours; the last one is a. */
    private static Run row(int size, int agent, int other) {
        Run run = new Run();
        for (int w = 0; w < size; w++) {
            run.does("world(" + (w == size - 1 ? 1 : 0) + ")");
            if (w > 0) {
                run.does("tie(" + (w % 2 == 0 ? agent : other) + ", " + (w - 1) + ", " + w + ")");
            }
        }
        return run;
    }

    /** Two worlds, and four in a ring that look like them, but for what 1 and 2 know together. */
    private static Run pairAndRing() {
        return worlds(0, 1, 0, 1, 0, 1).does("tie(1, 0, 1); tie(2, 0, 1); tie(1, 2, 3); tie(1, 4, 5); tie(2, 3, 4); tie(2, 5, 2)");
    }

    private static void terms() {
        Check.sentence(0, "Two worlds are ALIKE, if no formula without D holds in just one of them.");
        pairAndRing().where("D12~a", "001010").where("C12P1a", "111111")
            .does("differ(0, 2) NONE; differ(0, 4) NONE; differ(1, 5) NONE; differ(3, 1) NONE; differ(0, 1) 0");
        worlds(5, 5).does("differ(0, 1) NONE; tie(4, 0, 1); differ(0, 1) NONE; atom(1, 7, true); differ(0, 1) 0");
        worlds(3, 3, 3).does("tie(1, 0, 1); tie(2, 1, 2); differ(0, 1) NONE; differ(0, 2) NONE; contract() 1");

        Check.sentence(0, "They DIFFER by k, if some formula of ATOMS, ~, & and K alone holds in just one of them, in which"
            + " K stands at most k deep within K (0: without K, 1: none within another), and none with less.");
        for (int agent = 1; agent <= 4; agent++) {
            worlds(0, 0, 1).does("tie(" + agent + ", 1, 2); differ(0, 1) 1; differ(1, 0) 1; differ(0, 2) 0; differ(1, 2) 0");
        }
        for (int which = 0; which < 8; which++) {
            worlds(0, 1 << which).does("differ(0, 1) 0; tie(1, 0, 1); differ(1, 0) 0");
        }
        row(4, 1, 2).does("differ(0, 1) 2; differ(0, 2) 1; differ(1, 2) 1; differ(2, 3) 0; differ(0, 3) 0");
        // No two of 64 worlds can differ by more.
        row(64, 1, 2).does("differ(0, 1) 62; differ(1, 0) 62; differ(1, 2) 61; differ(30, 31) 32; differ(61, 62) 1;"
            + "differ(0, 62) 1; differ(62, 63) 0; differ(0, 63) 0");
        row(64, 4, 3).does("differ(0, 1) 62; differ(0, 2) 61; differ(60, 59) 3");
        // Each agent's K counts by itself: 0 and 1 are told apart only by what 1 knows of what 2 knows.
        worlds(0, 0, 0, 0, 1).does("tie(1, 0, 2); tie(1, 1, 3); tie(2, 3, 4); differ(2, 3) 1; differ(0, 1) 2; differ(0, 2) NONE");
    }

    private static void contract() {
        Check.sentence(21, "Of worlds that are ALIKE just the first one stays, numbered anew in their order;");
        worlds(1, 2, 1, 4, 2, 1).does("contract() 3").all(0, 1, 2, 4).all(1, 0, 1, 2);
        worlds(2, 1, 1, 2, 4).does("contract() 3").all(0, 2, 1, 4);
        worlds(1, 0, 1, 0, 2).does("tie(1, 0, 3); tie(1, 2, 1); tie(2, 1, 4); differ(1, 3) 1; differ(0, 2) 2; contract() 5;"
            + "count(4) 0; alone(2, 4) 1; differ(1, 3) NONE; contract() 3; count(4) 1").all(0, 1, 0, 2)
            .does("contract() 3; count(4) 1; back() 5");
        Run same = new Run();
        for (int w = 0; w < 64; w++) {
            same.does("world(7); tie(" + (1 + w % 4) + ", " + w + ", " + w / 2 + ")");
        }
        same.does("contract() 1; told(0, 0) 7; told(0, 4) 0; count(4) 1; back() 64; contract() 1; world(7) 1");
        row(64, 1, 2).does("contract() 64; count(4) 0; told(63, 0) 1; told(63, 1) 63; told(62, 1) 61");

        Check.sentence(21, "two of them are in one cell, if some that are ALIKE with each are:");
        // 0 and 1 are not in one cell themselves.
        worlds(1, 0, 1, 0, 2).does("tie(1, 0, 3); tie(1, 2, 1); contract() 3").all(1, 0, 0, 2).all(2, 0, 1, 2).all(3, 0, 1, 2);
        for (int agent = 1; agent <= 4; agent++) {
            Run run = worlds(1, 2, 4, 1, 2, 4).does("tie(" + agent + ", 0, 4); tie(" + agent + ", 3, 1); contract() 3");
            for (int other = 1; other <= 4; other++) {
                int[] due = {0, other == agent ? 0 : 1, 2};
                run.does("told(0, " + other + ") 0; told(1, " + other + ") " + due[1] + "; told(2, " + other + ") 2");
            }
        }
        pairAndRing().does("contract() 2").all(0, 0, 1).all(1, 0, 0).all(2, 0, 0).all(3, 0, 1).where("D12~a", "00");
        // The tied ones stand in a world that stays and one that goes, and in two that go.
        worlds(1, 2, 4, 1, 2, 4).does("tie(3, 0, 4); tie(3, 4, 5); tie(3, 1, 3); tie(3, 3, 2); contract() 3").all(3, 0, 0, 0)
            .does("tie(3, 1, 1) 3");

        Check.sentence(21, "how many worlds there are.");
        new Run("contract() 0; count(0) 0; count(4) 0");
        worlds(9).does("contract() 1; back() BAD");
        worlds(9, 9).does("contract() 1; count(0) 1; contract() 1; count(4) 1; back() 2; back() BAD");
        pairAndRing().does("contract() 2; count(0) 2; back() 6; count(0) 6");
    }

    private static void differ() {
        Check.sentence(22, "By how much two worlds DIFFER;");
        row(5, 2, 3).does("differ(0, 4) 0; differ(4, 0) 0; differ(3, 0) 1; differ(2, 0) 2; differ(1, 0) 3; differ(0, 1) 3");
        // What is otherwise since is seen.
        worlds(0, 0, 1).does("differ(0, 1) NONE; tie(1, 0, 2); differ(0, 1) 1; tie(1, 1, 2); differ(0, 1) NONE;"
            + "atom(0, 1, true); differ(0, 1) 0; back() BAD; count(4) 0");

        Check.sentence(22, "NONE: they are ALIKE.");
        row(64, 1, 2).does("differ(0, 0) NONE; differ(63, 63) NONE; differ(30, 30) NONE");
        worlds(5, 5, 4).does("differ(0, 1) NONE; differ(1, 0) NONE; differ(2, 2) NONE; tie(1, 0, 1); differ(0, 1) NONE");

        Check.sentence(22, "BAD: none such.");
        new Run("differ(0, 0) BAD; differ(-1, -1) BAD");
        worlds(1, 2).changesNothing("differ(-1, 0) BAD; differ(0, -1) BAD; differ(0, 2) BAD; differ(2, 0) BAD; differ(2, 2) BAD;"
            + "differ(MIN, 0) BAD; differ(0, MAX) BAD; differ(64, 0) BAD; differ(0, 64) BAD").does("differ(0, 1) 0");
        row(64, 1, 2).does("differ(63, 64) BAD; differ(64, 64) BAD; differ(64, 0) BAD");
    }

    public static void main(String[] args) {
        terms();
        contract();
        differ();
        Check.end();
    }
}
