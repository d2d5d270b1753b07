/** Saying and happening; promises 14 to 20, sentence by sentence. */
public final class HappeningTest {
    // What the ends of a row know, and none within it does: said again and again, it takes two worlds each time.
    private static final String ENDS_GO = "~(K1a|K1~a)&~(K2a|K2~a)";

    private HappeningTest() {
    }

    private static Run worlds(int... atoms) {
        Run run = new Run();
        for (int one : atoms) {
            run.does("world(" + one + ")");
        }
        return run;
    }

    private static Run manyWorlds(int many) {
        Run run = new Run();
        for (int w = 0; w < many; w++) {
            run.does("world(" + w + ")");
        }
        return run;
    }

    /** Worlds in a row, a in every other one; 1 and 2 in turn can't tell neighbours. ENDS_GO is at hand. */
    private static Run row(int many) {
        Run run = new Run();
        for (int w = 0; w < many; w++) {
            run.does("world(" + w % 2 + ")");
            if (w > 0) {
                run.does("tie(" + (1 + w % 2) + ", " + (w - 1) + ", " + w + ")");
            }
        }
        return run.put(ENDS_GO);
    }

    /** A text that is reduced to so many nodes, 150 or a few more or fewer. */
    private static String reducedTo(int nodes) {
        return "~".repeat(nodes - 147) + "[a](" + "b|".repeat(36) + "b)";
    }

    private static void terms() {
        Check.sentence(0, "SAYING a formula: the worlds in which it does not hold (all being there) go;"
            + " the others are numbered anew in their order.");
        worlds(0, 1, 2, 3, 1).does("tie(1, 0, 2); tie(1, 2, 3); tie(1, 3, 1); tie(2, 4, 1)").put("a").does("say() 3")
            .all(0, 1, 3, 1).all(1, 0, 0, 2).all(2, 0, 1, 0).all(3, 0, 1, 2).does("tie(1, 0, 0) 2");
        // Whether it holds is asked before any world goes.
        worlds(1, 3, 1).does("tie(1, 0, 1); tie(1, 1, 2)").put("P1b&~K1b&(b|a&~P2b)").does("say() 3")
            .put("~b").does("say() 2").put("P1b").does("worlds() 0");
        manyWorlds(64).put("f").does("say() 32; told(0, 0) 32; told(31, 0) 63; told(32, 0) BAD").put("a&b&c&d&e")
            .does("say() 1; told(0, 0) 63; told(0, 4) 0");

        Check.sentence(0, "HAPPENING: EVENTS are numbered from 0 on, at most 8, each with a formula that must hold for"
            + " it, and perhaps, for each ATOM, a formula that tells whether it holds behind it; for each agent they"
            + " fall into cells, too.");
        Run run = worlds(0);
        for (int e = 0; e < 8; e++) {
            run.does("change(" + e + ", 0) BAD; event() " + e + "; change(" + e + ", " + e + ") 0");
        }
        run.does("event() BAD; count(1) 8; tieEvents(2, 7, 0) 2; happen() 8").all(0, 1, 2, 4, 8, 16, 32, 64, 128)
            .all(1, 0, 1, 2, 3, 4, 5, 6, 7).all(2, 0, 1, 2, 3, 4, 5, 6, 0);
        run = worlds(85).put("~a").does("event()");
        for (int which = 0; which < 8; which++) {
            run.put("~" + (char) ('a' + which)).does("change(0, " + which + ") 0");
        }
        run.does("happen() 0; atom(0, 0, false) 1; happen() 1").all(0, 171);

        Check.sentence(0, "The worlds become all pairs of a world and an event whose formula holds in it, numbered by"
            + " the world, then by the event;");
        run = worlds(1, 2, 3).put("a").does("event()").put("b").does("event()").put("1").does("event()");
        for (int e = 0; e < 3; e++) {
            run.does("change(" + e + ", " + (5 + e) + ")");
        }
        run.does("happen() 7").all(0, 1 + 32, 1 + 128, 2 + 64, 2 + 128, 3 + 32, 3 + 64, 3 + 128);

        Check.sentence(0, "ATOMS are as the event tells in the world, else as there;");
        worlds(0, 1, 2, 3).does("tie(1, 0, 2)").does("event(); event()").put("b").does("change(0, 0)").put("a")
            .does("change(0, 1)").put("K1~b").does("change(1, 7)").does("happen() 8")
            .all(0, 0, 0, 2, 129, 1, 2, 3, 3);

        Check.sentence(0, "two are in one cell, if their worlds and their events are.");
        worlds(0, 0, 0).does("tie(1, 0, 2); tie(2, 0, 1); event(); event(); tieEvents(1, 0, 1); tieEvents(3, 0, 1)")
            .does("happen() 6").all(1, 0, 0, 2, 2, 0, 0).all(2, 0, 1, 0, 1, 4, 5).all(3, 0, 0, 2, 2, 4, 4)
            .all(4, 0, 1, 2, 3, 4, 5);
        // Each of the pairs has all of its cell, the first and the last one too.
        worlds(1, 2).does("tie(1, 0, 1); event(); event(); tieEvents(2, 0, 1); tieEvents(1, 1, 0)").put("0").does("change(0, 0)")
            .does("happen() 4").all(0, 0, 1, 2, 2).all(1, 0, 0, 0, 0).all(2, 0, 0, 2, 2)
            .where("P1a", "1111").where("P2a", "1100").where("K2b", "0011").where("P3a", "0100").where("K1b", "0000")
            .does("tie(1, 0, 0) 4; tie(2, 0, 0) 2; tie(2, 3, 3) 2; tie(3, 0, 0) 1");
        worlds(1, 2).does("tie(1, 0, 1); event(); event(); tieEvents(2, 0, 1); happen() 4").all(0, 1, 1, 2, 2)
            .all(1, 0, 1, 0, 1).all(2, 0, 0, 2, 2).where("K1a", "0000").where("K2a", "1100").does("tie(1, 0, 0) 2; tie(1, 3, 3) 2");
    }

    private static void say() {
        Check.sentence(14, "The formula at hand is SAID: how many worlds are left.");
        row(28).does("say() 26; say() 24; count(2) 15; count(0) 24; count(4) 2; say() 22; worlds() 20");
        worlds(1, 3).does("say() 2; count(4) 0").put("a").does("say() 2; count(4) 0").put("b").does("say() 1; say() 1; count(4) 1");

        Check.sentence(14, "0: it holds nowhere, and nothing changes.");
        worlds(1, 2).does("tie(4, 0, 1)").put("0").changesNothing("say() 0").put("a&b").changesNothing("say() 0")
            .does("count(4) 0; back() BAD").put("a").does("say() 1").put("~a").changesNothing("say() 0; say() 0")
            .does("count(4) 1; back() 2");
        new Run("say() 0; count(4) 0; world(0); say() 1");
        row(2).does("say() 0; count(0) 2; told(1, 2) 0; back() BAD");
    }

    private static void event() {
        Check.sentence(15, "One more EVENT, for which the formula at hand must hold, alone in all its cells, and by"
            + " which no ATOM changes: which one.");
        worlds(0, 1).does("tie(1, 0, 1)").put("a").does("event() 0").put("~a").does("event() 1").put("K1a")
            .does("event() 2").put("0").does("count(1) 3; happen() 2").all(0, 0, 1).all(1, 0, 1);
        // Nothing of an event that was there before is left.
        worlds(6).does("event(); event(); tieEvents(1, 0, 1) 2; change(0, 0); change(1, 7); noEvents() 2;"
            + "event() 0; event() 1; tieEvents(1, 0, 0) 1; tieEvents(1, 1, 1) 1; happen() 2").all(0, 6, 6).all(1, 0, 1);

        Check.sentence(15, "BAD: there are 8;");
        Run run = worlds(0);
        for (int e = 0; e < 8; e++) {
            run.does("event() " + e);
        }
        run.put("0").does("event() BAD; event() BAD; count(1) 8; happen() 8; noEvents() 8; event() 0; happen() 0");

        Check.sentence(15, "that has more than 150 NODES.");
        new Run().put("~" + "a|".repeat(74) + "a", 150).does("event() 0");
        new Run().put(reducedTo(150)).does("reduce() 150; event() 0; count(1) 1");
        new Run().put(reducedTo(151)).does("reduce() 151; event() BAD; count(1) 0").put("1").does("event() 0");
        new Run().put(reducedTo(151)).does("event() 0; reduce() 151; event() BAD; count(1) 1");
        worlds(1, 3).put(reducedTo(149)).does("reduce() 149; event() 0; happen() 1").all(0, 3);
    }

    private static void tieEvents() {
        Check.sentence(16, "An agent can't tell two events apart: how many its cell has.");
        Run run = worlds(0).does("event(); event(); event(); event(); event(); event(); event(); event()");
        run.does("tieEvents(1, 0, 7) 2; tieEvents(1, 7, 0) 2; tieEvents(1, 3, 4) 2; tieEvents(1, 4, 7) 4;"
            + "tieEvents(1, 1, 1) 1; tieEvents(1, 3, 3) 4; tieEvents(1, 0, 0) 4; tieEvents(1, 7, 7) 4; tieEvents(4, 5, 6) 2; happen() 8")
            .all(1, 0, 1, 2, 0, 0, 5, 6, 0).all(2, 0, 1, 2, 3, 4, 5, 6, 7).all(4, 0, 1, 2, 3, 4, 5, 5, 7);
        run = new Run("event(); event(); event(); event(); event(); event(); event(); event()");
        for (int e = 1; e < 8; e++) {
            run.does("tieEvents(3, " + e + ", " + (e - 1) + ") " + (e + 1));
        }

        Check.sentence(16, "BAD: none such.");
        worlds(0).does("event(); event(); tieEvents(0, 0, 1) BAD; tieEvents(5, 0, 1) BAD; tieEvents(-1, 0, 1) BAD;"
            + "tieEvents(MIN, 0, 1) BAD; tieEvents(MAX, 0, 1) BAD; tieEvents(1, -1, 0) BAD; tieEvents(1, 0, -1) BAD;"
            + "tieEvents(1, 2, 0) BAD; tieEvents(1, 0, 2) BAD; tieEvents(1, 8, 1) BAD; tieEvents(4, 0, 8) BAD;"
            + "tieEvents(1, MIN, 0) BAD; tieEvents(1, 0, MAX) BAD; happen() 2")
            .all(1, 0, 1).all(2, 0, 1).all(3, 0, 1).all(4, 0, 1)
            .does("tieEvents(4, 0, 1) 2; noEvents() 2; tieEvents(4, 0, 1) BAD; tieEvents(1, 0, 0) BAD");
        // Worlds are no events.
        worlds(0, 0).does("event(); tieEvents(1, 0, 1) BAD; tieEvents(1, 0, 0) 1");
    }

    private static void change() {
        Check.sentence(17, "Behind an event an ATOM holds, if the formula at hand holds before it: 0.");
        worlds(0, 1).does("tie(1, 0, 1); event()").put("P1a").does("change(0, 7) 0").put("~a").does("change(0, 0) 0")
            .put("a").does("happen() 2").all(0, 129, 128).does("happen() 2").all(0, 128, 129);
        // The last one told counts.
        worlds(0).does("event(); change(0, 0) 0").put("0").does("change(0, 0) 0; happen() 1").all(0, 0)
            .put("1").does("change(0, 0) 0; happen() 1").all(0, 1);

        Check.sentence(17, "BAD: none such;");
        worlds(0).does("change(0, 0) BAD; event(); change(1, 0) BAD; change(-1, 0) BAD; change(8, 0) BAD; change(MIN, 0) BAD;"
            + "change(MAX, 0) BAD; change(0, 8) BAD; change(0, -1) BAD; change(0, MIN) BAD; change(0, MAX) BAD;"
            + "happen() 1").all(0, 0).does("change(0, 7) 0; change(0, 0) 0; happen() 1").all(0, 129)
            .does("noEvents() 1; change(0, 0) BAD");

        Check.sentence(17, "that has more than 150 NODES.");
        worlds(0).does("event()").put(reducedTo(150)).does("reduce() 150; change(0, 3) 0; happen() 1").all(0, 0)
            .put(reducedTo(149)).does("reduce() 149; change(0, 3) 0; happen() 1").all(0, 8);
        worlds(0).does("event()").put(reducedTo(151)).does("reduce() 151; change(0, 3) BAD; happen() 1").all(0, 0);
        worlds(1).does("event()").put("~" + "a&".repeat(74) + "a", 150).does("change(0, 2) 0; happen() 1").all(0, 1);
    }

    private static void noEvents() {
        Check.sentence(18, "There are no events any more: how many there were.");
        worlds(0).does("noEvents() 0; event(); event(); noEvents() 2; count(1) 0; noEvents() 0; happen() 0; count(0) 1;"
            + "event() 0; noEvents() 1; back() BAD");
        Run run = new Run();
        for (int e = 0; e < 8; e++) {
            run.does("event()");
        }
        run.does("event() BAD; noEvents() 8; count(1) 0; event() 0; count(1) 1");
        // The steps that were made stay.
        worlds(0).does("event(); event(); happen() 2; noEvents() 2; count(4) 1; back() 1");
    }

    private static void happen() {
        Check.sentence(19, "It HAPPENS: how many worlds there are then (the events stay).");
        worlds(0).does("event(); event(); happen() 2; count(1) 2; happen() 4; happen() 8; happen() 16; happen() 32;"
            + "happen() 64; count(0) 64; count(1) 2; count(4) 6; back() 32; back() 16; happen() 32; count(4) 5");
        worlds(1, 0, 1).does("tie(1, 0, 1); tie(1, 1, 2); tie(2, 0, 2)").put("a").does("event()").put("~a|K2a")
            .does("event(); tieEvents(2, 0, 1) 2; happen() 5").all(0, 1, 1, 0, 1, 1).all(1, 0, 1, 1, 0, 1)
            .all(2, 0, 0, 2, 0, 0).all(3, 0, 1, 2, 3, 4).does("count(1) 2");
        // As many pairs as can be: each of 57 worlds, and 7 of them once more.
        manyWorlds(57).does("event()").put("a&b&c").does("event(); happen() 64; count(0) 64; told(63, 0) 56; told(62, 0) 55;"
            + "told(61, 0) 55; told(8, 0) 7; told(7, 0) 7; count(4) 1; back() 57");
        Run run = manyWorlds(8).put("1");
        for (int e = 0; e < 8; e++) {
            run.does("event()");
        }
        run.does("change(7, 7) 0; happen() 64; told(63, 0) 135; told(62, 0) 7; told(7, 0) 128; told(8, 0) 1");

        Check.sentence(19, "0: none would be;");
        new Run("event()").changesNothing("happen() 0");
        worlds(0, 1).changesNothing("happen() 0").put("c").does("event(); event()").changesNothing("happen() 0; happen() 0")
            .does("back() BAD; noEvents()").put("a").does("event(); happen() 1; noEvents()").put("~a").does("event()")
            .changesNothing("happen() 0").does("count(4) 1; back() 2");

        Check.sentence(19, "GREAT: more than 64:");
        manyWorlds(64).does("event(); happen() 64").put("a&b&c&d&e&f").does("event(); happen() GREAT; count(0) 64;"
            + "told(63, 0) 63; told(1, 0) 1; count(1) 2; count(4) 1; worlds() 1; back() 64; back() BAD");
        manyWorlds(58).does("event()").put("a&b&c").does("event(); happen() GREAT; count(0) 58; told(57, 0) 57; count(4) 0");
        Run great = manyWorlds(64);
        for (int e = 0; e < 8; e++) {
            great.does("event()");
        }
        great.does("happen() GREAT; count(0) 64; told(63, 0) 63; count(1) 8; count(4) 0");
        manyWorlds(33).does("event(); event(); happen() GREAT; count(0) 33").put("a|b|c|d|e|f").does("say() 32; happen() 64");
    }

    private static void happenInVain() {
        Check.sentence(19, "nothing changes in both.");
        // Both with a step that can be undone, ties, an event that changes an ATOM, signs and a text at hand.
        steppedAndTied().put("0").does("event() 0; change(0, 0) 0").put("b").does("type(97); tell() 1")
            .changesNothing("happen() 0; happen() 0").does("letter(0) 'b'; back() 14");
        Run great = steppedAndTied();
        for (int e = 0; e < 5; e++) {
            great.does("event() " + e + "; tieEvents(2, 0, " + e + ") " + (e + 1));
        }
        great.does("change(4, 7) 0").put("b").does("type(97); tell() 1").changesNothing("happen() GREAT; happen() GREAT")
            .does("letter(0) 'b'; tieEvents(2, 0, 4) 5; back() 14");
    }

    private static void undone() {
        Check.sentence(20, "The last say() or contract() by which a world went, or happen(), is undone");
        worlds(0, 0, 1, 1).does("tie(1, 0, 2); tie(1, 1, 3); tie(4, 2, 3); contract() 2").put("a").does("say() 1")
            .does("event(); happen() 1; count(4) 3; back() 1; count(4) 2; back() 2").all(0, 0, 1).all(1, 0, 0)
            .does("worlds() 1; back() 4; worlds() 2; count(4) 0; count(1) 1").all(0, 0, 0, 1, 1).all(1, 0, 1, 0, 1)
            .all(4, 0, 1, 2, 2);
        // Where no world went, there is nothing to be undone; what happens counts also if all stays as it was.
        worlds(0, 1).does("say() 2; contract() 2; count(4) 0; back() BAD; event(); happen() 2; say() 2; contract() 2;"
            + "count(4) 1; back() 2; back() BAD");
        worlds(0, 1).put("0").does("say() 0; event(); happen() 0; back() BAD");
        // The formula, the signs and the text stay.
        worlds(0, 1).put("a").does("say() 1; tell() 1").put("b|c").does("type(97); back() 2; count(2) 3; count(3) 1; letter(0) 'a'");
    }

    private static void kept() {
        Check.sentence(20, "(at most 12 are kept;");
        Run run = row(26);
        for (int step = 1; step <= 12; step++) {
            run.does("say() " + (26 - 2 * step) + "; count(4) " + step);
        }
        for (int step = 11; step >= 0; step--) {
            run.does("back() " + (26 - 2 * step) + "; count(4) " + step);
        }
        run.does("back() BAD; count(0) 26");
        run = row(40);
        for (int step = 1; step <= 18; step++) {
            run.does("say() " + (40 - 2 * step) + "; count(4) " + Math.min(step, 12));
        }
        for (int step = 1; step <= 12; step++) {
            run.does("back() " + (4 + 2 * step) + "; count(4) " + (12 - step));
        }
        run.does("back() BAD; back() BAD; count(0) 28").all(0, 0, 1, 0, 1, 0, 1, 0, 1, 0, 1, 0, 1, 0, 1, 0, 1, 0, 1,
            0, 1, 0, 1, 0, 1, 0, 1, 0, 1);
        // Going to and fro, one at a time and many at once, over the end of the twelve.
        run = row(60);
        int size = 60;
        int steps = 0;
        for (int round = 0; round < 9; round++) {
            for (int i = 0; i < 5 + round; i++) {
                size -= 2;
                steps = Math.min(steps + 1, 12);
                run.does("say() " + size + "; count(4) " + steps);
            }
            for (int i = 0; i < 4 + round; i++) {
                size += 2;
                steps--;
                run.does("back() " + size + "; count(4) " + steps);
            }
        }
        // Twelve of all three kinds, the oldest of 13 being one of each kind in turn.
        run = worlds(0, 0, 1, 3);
        run.does("contract() 3; event()").put("a").does("say() 2");
        for (int i = 0; i < 11; i++) {
            run.does("happen() 2");
        }
        run.does("count(4) 12");
        for (int i = 0; i < 11; i++) {
            run.does("back() 2");
        }
        run.does("back() 3; back() BAD; count(4) 0");
    }

    /** Thirteen worlds left of fourteen by a step that can be undone, tied crosswise; 1 is at hand. */
    private static Run steppedAndTied() {
        Run run = manyWorlds(14);
        for (int w = 1; w < 14; w++) {
            run.does("tie(" + (1 + w % 4) + ", " + w + ", " + w / 3 + ")");
        }
        return run.put("a|b|c|d").does("say() 13; count(4) 1").put("1");
    }

    /** A room with a step that can be undone. */
    private static Run stepped() {
        return worlds(0, 1, 3).put("a").does("say() 2; count(4) 1");
    }

    private static void forgotten() {
        Check.sentence(20, "world(), tie(), alone(), atom() that are not refused forget them,");
        stepped().does("world(256) BAD; tie(1, 0, 2) BAD; tie(0, 0, 0) BAD; tie(1, -1, 0) BAD; alone(1, 2) BAD; alone(5, 0) BAD;"
            + "atom(0, 8, true) BAD; atom(2, 0, true) BAD; count(4) 1; back() 3");
        stepped().does("told(0, 0); holds(0); worlds(); type(97); four(97); formula(); tell(); letter(0); event(); change(0, 0);"
            + "tieEvents(1, 0, 0); noEvents(); differ(0, 1); reduce(); decide(0); contract() 2; say() 2; happen() 0;"
            + "count(4) 1; back() 3");
        for (String call : new String[] {"world(0)", "world(255)", "tie(1, 0, 1)", "tie(4, 1, 0)", "atom(0, 0, false)",
                "atom(1, 7, true)"}) {
            stepped().does(call + "; count(4) 0; back() BAD");
        }
        worlds(0, 1, 3).does("tie(2, 1, 2)").put("a").does("say() 2; count(4) 1; alone(2, 0) 1; count(4) 0; back() BAD");
        manyWorlds(64).does("event(); happen() 64; world(0) BAD; count(4) 1; back() 64; happen() 64; atom(63, 7, true) 0")
            .does("count(4) 0; back() BAD");
        // Steps behind it are kept again.
        row(28).does("say() 26; say() 24; alone(3, 0) 0; say() 22; say() 20; count(4) 2; back() 22; back() 24; back() BAD");

        Check.sentence(20, "also when nothing is otherwise by it):");
        for (String call : new String[] {"tie(1, 0, 0) 1", "tie(4, 1, 1) 1", "alone(1, 0) 0", "alone(4, 1) 0",
                "atom(0, 0, true) 1", "atom(1, 7, false) 0"}) {
            stepped().does(call + "; count(4) 0; back() BAD; count(0) 2");
        }
        worlds(0, 1, 3).does("tie(2, 1, 2)").put("a").does("say() 2; count(4) 1; tie(2, 1, 0) 2; count(4) 0; back() BAD");

        Check.sentence(20, "how many worlds there are.");
        stepped().does("event(); event(); happen() 4; back() 2; count(0) 2; back() 3; count(0) 3");
        manyWorlds(64).put("f").does("say() 32; event(); event(); back() 64; count(0) 64; happen() 64; back() 64; count(0) 64");

        Check.sentence(20, "BAD: none such.");
        new Run("back() BAD; world(0); back() BAD; count(4) 0; count(0) 1");
        stepped().does("back() 3").changesNothing("back() BAD; back() BAD").does("say() 2; back() 3; back() BAD");
    }

    public static void main(String[] args) {
        terms();
        say();
        event();
        tieEvents();
        change();
        noEvents();
        happen();
        happenInVain();
        undone();
        kept();
        forgotten();
        Check.end();
    }
}
