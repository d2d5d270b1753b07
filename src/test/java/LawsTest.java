/**
 * What the document makes follow from one call for another, looked at in many rooms, on the class
 * alone: so a mistake that the class and PlainRoom have in common is found here, too.
 */
public final class LawsTest {
    private static final int ROOMS = 1500;
    private static final int MOST_WORLDS = 6;
    private static final String[] LAWS = {"K1(x)>x", "K2x>K2K2x", "~K3x>K3~K3x", "K4(x>y)&K4x>K4y", "P1x=~K1~x", "E12x=K1x&K2x",
        "E123x=K1x&K2x&K3x", "C12x>x&E12C12x", "x&E12C12x>C12x", "x&C12(x>E12x)>C12x", "C1x=K1x", "C12x>C1x", "C12x=C12C12x",
        "K1x>P1x", "C12(x&y)=C12x&C12y", "~(K1x&~x)"};
    private static final String[] LAWS_OF_SAYING = {"[x]y=(x>[x]y)", "{x}y=x&[x]y", "[x]~y=(x>~[x]y)", "[x](y&a)=[x]y&[x]a",
        "[x]K1y=(x>K1[x]y)", "[x]P2y=(x>P2(x&[x]y))", "[x]E12y=(x>K1[x]y&K2[x]y)", "[x]D12y=(x>D12[x]y)", "D1x=K1x", "D12x>D123x",
        "K1x>D12x", "C12x>D12x", "[1]x=x", "[0]x", "~{0}x", "[x]a=(x>a)"};
    private long seed;
    private final Run run = new Run();

    private LawsTest(long seed) {
        this.seed = seed * 2654435761L + 99;
        furnish();
    }

    /** A number below the bound; the same ones in every run. */
    private int any(int bound) {
        seed = seed * 6364136223846793005L + 1442695040888963407L;
        return (int) ((seed >>> 33) % bound);
    }

    private char of(String signs) {
        return signs.charAt(any(signs.length()));
    }

    private String some(int deep, String ops) {
        if (deep <= 0 || any(8) == 0) {
            return "" + of("aab");
        }
        char op = of(ops);
        String part = some(deep - 1, ops);
        switch (op) {
            case '~': return "~" + part;
            case 'K': case 'P': return "" + op + of("123") + part;
            case 'E': case 'C': case 'D': return op + (any(2) == 0 ? "12" : "23") + part;
            case '[': return "[" + part + "]" + some(deep - 1, ops);
            case '{': return "{" + part + "}" + some(deep - 1, ops);
            default: return "(" + part + op + some(deep - 1, ops) + ")";
        }
    }

    /** Some worlds with few atoms, so that many are alike. */
    private void furnish() {
        int size = 1 + any(MOST_WORLDS);
        int atoms = 1 + any(4);
        for (int w = 0; w < size; w++) {
            run.ask("world", any(atoms));
        }
        for (int ties = any(7); ties > 0; ties--) {
            run.ask("tie", 1 + any(3), any(size), any(size));
        }
    }

    /** The worlds in which the formula at hand holds, as bits. */
    private int where() {
        int worlds = 0;
        for (int w = run.ask("count", 0) - 1; w >= 0; w--) {
            worlds |= run.ask("holds", w) << w;
        }
        return worlds;
    }

    private void put(String text) {
        int nodes = run.collect(text).ask("formula");
        Check.due(text + " is a formula", 1, nodes > 0 ? 1 : 0);
    }

    private int where(String text) {
        put(text);
        return where();
    }

    private int all() {
        return (1 << run.ask("count", 0)) - 1;
    }

    private String told() {
        StringBuilder text = new StringBuilder();
        for (int i = 0, size = run.ask("tell"); i < size; i++) {
            text.append((char) run.ask("letter", i));
        }
        return text.toString();
    }

    private String worlds() {
        StringBuilder worlds = new StringBuilder();
        for (int w = 0; w < run.ask("count", 0); w++) {
            for (int what = 0; what <= 4; what++) {
                worlds.append(run.ask("told", w, what)).append(what < 4 ? ' ' : '/');
            }
        }
        return worlds.toString();
    }

    /** Of the bits, just those of the worlds that are kept, numbered anew in their order. */
    private static int among(int kept, int bits) {
        int found = 0;
        int size = 0;
        for (int w = 0; w < MOST_WORLDS; w++) {
            if ((kept >> w & 1) != 0) {
                found |= (bits >> w & 1) << size++;
            }
        }
        return found;
    }

    private void saying() {
        String f = some(3, "~&|>KPECD[");
        String g = some(3, "~&|>KPECD{");
        int behind = where("[" + f + "]" + g);
        int andBehind = where("{" + f + "}" + g);
        int kept = where(f);
        Check.due("[" + f + "]" + g + " where that does not hold", all() & ~kept, behind & ~kept);
        Check.due("{" + f + "}" + g, behind & kept, andBehind);
        if (run.ask("say") > 0) {
            Check.due(g + " when " + f + " was said", among(kept, behind), where(g));
        }
    }

    private void happening() {
        String f = some(4, "~&|>KPECD[");
        int kept = where(f);
        String before = worlds();
        run.ask("event");
        int pairs = run.ask("happen");
        Check.due("as many as those in which " + f + " holds", Integer.bitCount(kept), pairs);
        String happened = worlds();
        if (pairs > 0) {
            run.ask("back");
        }
        Check.due("the worlds when it is undone", before, worlds());
        run.ask("say");
        Check.due("one event does what saying " + f + " does", happened, worlds());
    }

    private void reducing() {
        String f = some(4, "~&|>=KP[[{");
        int before = where(f);
        boolean great = run.ask("reduce") == KnowledgeRoom.GREAT;
        Check.due(f + " reduced", before, where());
        // decide() refuses what has [ ] or { } in it.
        boolean refused = run.ask("decide", 0) == KnowledgeRoom.BAD;
        Check.due("[ ] or { } in " + f + " reduced", great && f.matches(".*[\\[{].*") ? 1 : 0, refused ? 1 : 0);
    }

    private void telling() {
        put(some(4, "~&|>=KPECD[{"));
        int nodes = run.ask("count", 2);
        String text = told();
        put(text);
        Check.due(text + " told again", text, told());
        Check.due("NODES of " + text, nodes, run.ask("count", 2));
    }

    private void deciding() {
        String f = some(3, any(2) == 0 ? "~&|>=KPEC" : "~&KC");
        int found = where(f);
        int can = run.ask("decide", 0);
        int valid = run.ask("decide", 1);
        int left = run.ask("decide", 4);
        int by = run.ask("decide", 5);
        put("~(" + f + ")");
        if (can < 0) {
            Check.due("~ of what is GREAT", can, run.ask("decide", 0));
            return;
        }
        Check.due(f + " holds somewhere, so it can", found != 0 ? 1 : can, can);
        Check.due(f + " fails somewhere, so it is not valid", found != all() ? 0 : valid, valid);
        Check.due("~ of " + f + " can hold", 1 - valid, run.ask("decide", 0));
        Check.due("TYPES left for ~ of " + f, left, run.ask("decide", 4));
        Check.due("TYPES by which ~ of " + f + " holds", left - by, run.ask("decide", 5));
    }

    private String law(String[] laws, String ops) {
        return laws[any(laws.length)].replace("x", "(" + some(1, ops) + ")").replace("y", some(1, "~|P"));
    }

    private void lawsThatAreDecided() {
        String f = law(LAWS, "~&K");
        Check.due(f + " in all worlds", all(), where(f));
        Check.due(f + " is valid, if the BASE is not GREAT", run.ask("decide", 2) < 0 ? KnowledgeRoom.GREAT : 1, run.ask("decide", 1));
    }

    private void lawsOfSaying() {
        String f = law(LAWS_OF_SAYING, "~&KPEC[D");
        Check.due(f + " in all worlds", all(), where(f));
    }

    private void differing() {
        Sets sets = new Sets(run);
        String worlds = worlds();
        for (int u = 0; u < sets.size; u++) {
            for (int v = 0; v <= u; v++) {
                Check.due("differ(" + u + ", " + v + ") in " + worlds, sets.difference(u, v), run.ask("differ", u, v));
            }
        }
    }

    private void contracting() {
        String f = some(4, "~&|>=KPEC[{");
        int before = where(f);
        int kept = new Sets(run).firsts();
        Check.due("as many as do not differ", Integer.bitCount(kept), run.ask("contract"));
        Check.due(f + " in those that stay", among(kept, before), where());
        Check.due("all differ then", run.ask("count", 0), run.ask("contract"));
    }

    /** The sets of worlds that formulas of ATOMS, ~, & and K can tell, found one by one. */
    private static final class Sets {
        private static final int MOST_DEEP = MOST_WORLDS + 1;
        private final int size;
        private final int all;
        private final int[][] told;
        // Of each depth, the sets in which some formula holds: set s is bit s.
        private final long[] tellable = new long[MOST_DEEP];

        Sets(Run run) {
            size = run.ask("count", 0);
            all = (1 << size) - 1;
            told = new int[5][size];
            for (int what = 0; what <= 4; what++) {
                for (int w = 0; w < size; w++) {
                    told[what][w] = run.ask("told", w, what);
                }
            }
            tellable[0] = closed(atoms());
            for (int deep = 1; deep < MOST_DEEP; deep++) {
                tellable[deep] = closed(tellable[deep - 1] | known(tellable[deep - 1]));
            }
        }

        private static boolean has(long sets, int set) {
            return (sets >>> set & 1) != 0;
        }

        private long atoms() {
            long sets = 0;
            for (int which = 0; which < 8; which++) {
                int set = 0;
                for (int w = 0; w < size; w++) {
                    set |= (told[0][w] >> which & 1) << w;
                }
                sets |= 1L << set;
            }
            return sets;
        }

        private long closed(long start) {
            long sets = start;
            long before = 0;
            while (sets != before) {
                before = sets;
                for (int s = 0; s <= all; s++) {
                    for (int t = 0; t <= s && has(before, s); t++) {
                        sets |= has(before, t) ? 1L << (s & t) : 0;
                    }
                    sets |= has(before, s) ? 1L << (all & ~s) : 0;
                }
            }
            return sets;
        }

        private long known(long sets) {
            long more = 0;
            for (int agent = 1; agent <= 4; agent++) {
                for (int s = 0; s <= all; s++) {
                    more |= has(sets, s) ? 1L << knownBy(agent, s) : 0;
                }
            }
            return more;
        }

        private int knownBy(int agent, int set) {
            int worlds = all;
            for (int w = 0; w < size; w++) {
                for (int v = 0; v < size; v++) {
                    boolean doubts = told[agent][w] == told[agent][v] && (set >> v & 1) == 0;
                    worlds &= doubts ? ~(1 << w) : -1;
                }
            }
            return worlds;
        }

        int difference(int u, int v) {
            for (int deep = 0; deep < MOST_DEEP; deep++) {
                for (int s = 0; s <= all; s++) {
                    if (has(tellable[deep], s) && (s >> u & 1) != (s >> v & 1)) {
                        return deep;
                    }
                }
            }
            return KnowledgeRoom.NONE;
        }

        /** The worlds that no lower one is alike with, as bits. */
        int firsts() {
            int firsts = all;
            for (int w = 0; w < size; w++) {
                for (int v = 0; v < w; v++) {
                    firsts &= difference(v, w) == KnowledgeRoom.NONE ? ~(1 << w) : -1;
                }
            }
            return firsts;
        }
    }

    private void look(int law) {
        switch (law) {
            case 0: saying(); break;
            case 1: happening(); break;
            case 2: differing(); break;
            case 3: contracting(); break;
            case 4: reducing(); break;
            case 5: telling(); break;
            case 6: deciding(); break;
            case 7: lawsThatAreDecided(); break;
            default: lawsOfSaying();
        }
    }

    private static void inAllRooms(int law, int rooms) {
        for (int i = 0; i < rooms; i++) {
            new LawsTest(i).look(law);
        }
    }

    public static void main(String[] args) {
        int rooms = args.length > 0 ? Integer.parseInt(args[0]) : ROOMS;
        Check.sentence(0, "[f] g, if f does not hold, or g holds with just those there in which f holds;"
            + " {f} g: f holds, and so does g with just those.");
        inAllRooms(0, rooms);
        Check.sentence(0, "The worlds become all pairs of a world and an event whose formula holds in it,");
        inAllRooms(1, rooms);
        Check.sentence(0, "They DIFFER by k, if some formula of ATOMS, ~, & and K alone holds in just one of them,");
        inAllRooms(2, rooms);
        Check.sentence(21, "Of worlds that are ALIKE just the first one stays, numbered anew in their order;");
        inAllRooms(3, rooms);
        Check.sentence(0, "REDUCING: a formula without E, C, D becomes one without [ ] and { } by these rules,");
        inAllRooms(4, rooms);
        Check.sentence(12, "The formula at hand as a text comes to hand, to be told by letter():");
        inAllRooms(5, rooms);
        Check.sentence(0, "The formula CAN HOLD, if it holds by a TYPE that is left.");
        inAllRooms(6, rooms);
        Check.sentence(24, "1 whether ~ of it can't (it is valid)");
        inAllRooms(7, rooms);
        Check.sentence(0, "IT HOLDS in a world of some worlds, those that are THERE:");
        inAllRooms(8, rooms);
        Check.end();
    }
}
