/** How long an object is used; worlds, atoms and agents; promises 1 to 6, sentence by sentence. */
public final class WorldsTest {
    // Every call but world(), each with its answer; behind them all is as it was before.
    private static final String[] ROUND = {
        "type(49) 1", "formula() 1", "worlds() 4", "holds(3) 1", "tell() 1", "letter(0) '1'",
        "four(0) 0", "contract() 4", "differ(0, 3) 0", "event() 0", "tieEvents(1, 0, 0) 1",
        "change(0, 7) 0", "happen() 4", "told(3, 0) 131", "back() 4", "noEvents() 1", "tie(1, 0, 1) 2",
        "alone(1, 1) 1", "atom(0, 0, false) 0", "told(3, 0) 3", "decide(3) 1", "reduce() 1",
        "count(0) 4", "say() 4",
    };

    private WorldsTest() {
    }

    private static Run worlds(int... atoms) {
        Run run = new Run();
        for (int one : atoms) {
            run.does("world(" + one + ")");
        }
        return run;
    }

    private static Run manyWorlds(int many) {
        Run run = new Run();
        for (int w = 0; w < many; w++) {
            run.does("world(" + w + ")");
        }
        return run;
    }

    /** Each of the calls comes to be the last one once. */
    private static void calls() {
        Check.sentence(0, "An object is used for at most 512 calls after it has been made;"
            + " what later calls answer is free.");
        for (int lead = 0; lead < ROUND.length; lead++) {
            Run run = worlds(0, 1, 2, 3);
            for (int i = 0; i < lead; i++) {
                run.does("count(1) 0");
            }
            for (int i = 0; run.calls() < Run.MOST_CALLS; i++) {
                run.does(ROUND[i % ROUND.length]);
            }
        }
        Run run = new Run();
        while (run.calls() < Run.MOST_CALLS - 1) {
            run.does("count(0) 0");
        }
        run.does("world(255) 0");
    }

    private static void terms() {
        Check.sentence(0, "WORLDS are numbered from 0 on, at most 64.");
        Run full = new Run();
        for (int w = 0; w < 64; w++) {
            full.does("told(" + w + ", 0) BAD; world(" + w + ") " + w + "; told(" + w + ", 0) " + w);
        }
        full.does("world(0) BAD; count(0) 64; told(64, 0) BAD; told(-1, 0) BAD; worlds() 64");
        full.put("f").does("say() 32; world(0) 32; told(32, 0) 0; told(33, 0) BAD");

        Check.sentence(0, "ATOMS are a .. h; each holds in some worlds.");
        for (int which = 0; which < 8; which++) {
            String sign = String.valueOf((char) ('a' + which));
            worlds(1 << which, 255 - (1 << which)).where(sign, "10").where("~" + sign, "01");
        }
        new Run().fault("`", 0).fault("i", 0).fault("A", 0).fault("H", 0);

        Check.sentence(0, "AGENTS are 1 .. 4; for each one the worlds fall into CELLS: those that it"
            + " can't tell apart.");
        for (int agent = 1; agent <= 4; agent++) {
            Run run = worlds(1, 0, 1).does("tie(" + agent + ", 0, 1) 2");
            for (int other = 1; other <= 4; other++) {
                int[] due = {0, other == agent ? 0 : 1, 2};
                run.all(other, due).where("K" + other + "a", other == agent ? "001" : "101");
            }
        }
        worlds(0, 0).does("tie(0, 0, 1) BAD; tie(5, 0, 1) BAD; tie(-1, 0, 1) BAD; told(0, 5) BAD")
            .fault("K0a", 1).fault("K5a", 1).fault("E0a", 1).fault("E15a", 2);
    }

    private static void newObject() {
        Check.sentence(1, "No worlds, no events, nothing said; the formula at hand is 1.");
        new Run("count(0) 0; count(1) 0; count(2) 1; count(3) 0; count(4) 0; count(5) 0; letter(0) NONE")
            .tells("1");
        new Run("told(0, 0) BAD; holds(0) BAD; worlds() 0; back() BAD; noEvents() 0; world(0) 0; holds(0) 1");
        new Run("tie(1, 0, 0) BAD; alone(1, 0) BAD; atom(0, 0, true) BAD; differ(0, 0) BAD");
        new Run("say() 0; happen() 0; contract() 0; count(4) 0; tieEvents(1, 0, 0) BAD; change(0, 0) BAD");
        new Run("formula() -10; reduce() 1; decide(0) 1; decide(1) 1; decide(2) 0; decide(3) 1; decide(5) 1");
        Check.due("BAD", -1, KnowledgeRoom.BAD);
        Check.due("NONE", -2, KnowledgeRoom.NONE);
        Check.due("GREAT", -3, KnowledgeRoom.GREAT);
        Run other = new Run("world(1); type(97); event(); formula(); tell()");
        new Run("count(0) 0; count(1) 0; count(2) 1; count(3) 0; letter(0) NONE");
        other.does("count(0) 1; count(1) 1; letter(0) 'a'");
    }

    private static void world() {
        Check.sentence(2, "One more world, in which the ATOMS hold that bits 0 .. 7 tell (a is bit 0),"
            + " alone in all its cells: which one.");
        worlds().does("world(0) 0; world(1) 1; world(128) 2; world(255) 3").all(0, 0, 1, 128, 255)
            .all(1, 0, 1, 2, 3).all(2, 0, 1, 2, 3).all(3, 0, 1, 2, 3).all(4, 0, 1, 2, 3)
            .where("a", "0101").where("h", "0011");
        // A number that was there before is as new: nothing of the world that went is left.
        worlds(1, 254).does("tie(1, 0, 1) 2; tie(4, 1, 0) 2").put("a").does("say() 1; world(2) 1")
            .all(0, 1, 2).all(1, 0, 1).all(4, 0, 1).does("tie(1, 0, 0) 1; tie(1, 1, 1) 1");

        Check.sentence(2, "BAD: other bits,");
        worlds(3).changesNothing("world(256) BAD; world(511) BAD; world(257) BAD; world(-1) BAD; world(MIN) BAD;"
            + "world(MAX) BAD; world(1073741824) BAD; world(-256) BAD; world(65536) BAD")
            .does("world(255) 1");

        Check.sentence(2, "there are 64.");
        manyWorlds(63).does("world(255) 63; world(255) BAD; world(256) BAD; count(0) 64; told(63, 0) 255");
        manyWorlds(64).put("~a|b|c|d|e|f").does("say() 63; world(0) 63; world(0) BAD");
    }

    private static void tie() {
        Check.sentence(3, "An agent can't tell two worlds apart: their cells become one: how many worlds it has.");
        worlds(0, 1, 2, 3, 4, 5).does("tie(1, 4, 2) 2; tie(1, 2, 4) 2; tie(1, 5, 3) 2; tie(1, 3, 4) 4")
            .does("tie(1, 0, 0) 1; tie(1, 5, 5) 4; tie(4, 0, 5) 2; tie(1, 0, 1) 2; tie(1, 1, 2) 6")
            .all(1, 0, 0, 0, 0, 0, 0).all(2, 0, 1, 2, 3, 4, 5).all(3, 0, 1, 2, 3, 4, 5)
            .all(4, 0, 1, 2, 3, 4, 0);
        Run full = manyWorlds(64);
        for (int w = 62; w >= 0; w--) {
            full.does("tie(3, 63, " + w + ") " + (64 - w) + "; told(63, 3) " + w);
        }
        full.does("tie(3, 0, 63) 64; told(63, 2) 63; told(63, 4) 63");

        Check.sentence(3, "BAD: none such.");
        worlds(0, 1).changesNothing("tie(0, 0, 1) BAD; tie(5, 0, 1) BAD; tie(-1, 0, 1) BAD; tie(MIN, 0, 1) BAD;"
            + "tie(MAX, 0, 1) BAD; tie(1, -1, 1) BAD; tie(1, 0, -1) BAD; tie(1, 2, 0) BAD; tie(1, 0, 2) BAD;"
            + "tie(1, 2, 2) BAD; tie(1, MIN, 0) BAD; tie(1, 0, MAX) BAD; tie(1, 64, 0) BAD; tie(1, 0, 64) BAD")
            .does("tie(4, 1, 0) 2; tie(1, 0, 1) 2");
        manyWorlds(64).does("tie(1, 63, 64) BAD; tie(1, 64, 63) BAD; tie(4, 63, 63) 1");
    }

    private static void alone() {
        Check.sentence(4, "A world is alone in an agent's cell from now on: how many others were in it.");
        worlds(0, 1, 2, 3, 4).does("tie(2, 0, 1) 2; tie(2, 1, 3) 3; tie(3, 0, 1) 2; alone(2, 0) 2")
            .all(2, 0, 1, 2, 1, 4).all(3, 0, 0, 2, 3, 4)
            .does("alone(2, 0) 0; alone(2, 4) 0; tie(2, 3, 3) 2; tie(2, 0, 3) 3; alone(2, 3) 2")
            .all(2, 0, 0, 2, 3, 4).does("alone(2, 1) 1; tie(2, 0, 0) 1; alone(1, 1) 0; alone(4, 1) 0");
        Run full = manyWorlds(64);
        for (int w = 1; w < 64; w++) {
            full.does("tie(4, 0, " + w + ")");
        }
        for (int w = 0; w < 64; w++) {
            full.does("alone(4, " + w + ") " + (63 - w) + "; told(63, 4) " + Math.min(w + 1, 63));
        }

        Check.sentence(4, "BAD: none such.");
        worlds(0, 1).does("tie(1, 0, 1); tie(4, 0, 1)").changesNothing("alone(0, 0) BAD; alone(5, 0) BAD;"
            + "alone(-1, 0) BAD; alone(MIN, 0) BAD; alone(MAX, 0) BAD; alone(1, -1) BAD; alone(1, 2) BAD;"
            + "alone(1, MIN) BAD; alone(1, MAX) BAD; alone(4, 64) BAD").does("alone(1, 0) 1; alone(4, 1) 1");
        manyWorlds(64).does("alone(1, 64) BAD; alone(1, 63) 0");
    }

    private static void atom() {
        Check.sentence(5, "An ATOM (0 .. 7) holds in a world or not: whether it did (1 or 0).");
        worlds(0, 1).does("atom(0, 0, true) 0; atom(0, 0, true) 1; atom(1, 0, false) 1; atom(1, 0, false) 0")
            .all(0, 1, 0).does("atom(1, 7, true) 0; atom(1, 7, true) 1; atom(0, 7, false) 0").all(0, 1, 128)
            .does("atom(1, 7, false) 1").all(0, 1, 0);
        Run run = worlds(255, 0);
        for (int which = 0; which < 8; which++) {
            run.does("atom(0, " + which + ", false) 1; atom(1, " + which + ", true) 0");
            run.all(0, 255 & -2 << which, (2 << which) - 1);
        }
        manyWorlds(64).does("atom(63, 6, true) 0; told(63, 0) 127; told(62, 0) 62; told(31, 0) 31; atom(63, 0, false) 1")
            .does("told(63, 0) 126");

        Check.sentence(5, "BAD: none such.");
        worlds(5, 250).changesNothing("atom(0, -1, true) BAD; atom(0, 8, true) BAD; atom(0, MIN, true) BAD;"
            + "atom(0, MAX, false) BAD; atom(-1, 0, false) BAD; atom(2, 0, true) BAD; atom(64, 0, true) BAD;"
            + "atom(MIN, 0, true) BAD; atom(MAX, 7, false) BAD; atom(1, 32, true) BAD")
            .does("atom(1, 7, false) 1; atom(0, 0, false) 1");
        manyWorlds(64).does("atom(64, 0, true) BAD; atom(63, 0, true) 1");
    }

    private static void told() {
        Check.sentence(6, "Of a world: 0 its ATOMS as bits, 1 .. 4 the least world of that agent's cell of it.");
        worlds(129, 2, 4).does("tie(1, 2, 1); tie(2, 2, 0); tie(3, 1, 0); tie(4, 1, 2); tie(4, 0, 2)")
            .all(0, 129, 2, 4).all(1, 0, 1, 1).all(2, 0, 1, 0).all(3, 0, 0, 2).all(4, 0, 0, 0)
            .does("alone(4, 0) 2").all(4, 0, 1, 1);
        manyWorlds(64).does("tie(1, 63, 62) 2; told(63, 1) 62; told(63, 2) 63; told(63, 0) 63; told(0, 0) 0");

        Check.sentence(6, "BAD: none such.");
        worlds(1, 1).changesNothing("told(0, -1) BAD; told(0, 5) BAD; told(0, MIN) BAD; told(0, MAX) BAD;"
            + "told(-1, 0) BAD; told(2, 0) BAD; told(2, 1) BAD; told(-1, 4) BAD; told(MIN, 0) BAD; told(MAX, 4) BAD")
            .does("told(1, 4) 1; told(1, 0) 1");
        manyWorlds(64).does("told(64, 0) BAD; told(64, 4) BAD");
    }

    public static void main(String[] args) {
        calls();
        terms();
        newObject();
        world();
        tie();
        alone();
        atom();
        told();
        Check.end();
    }
}
