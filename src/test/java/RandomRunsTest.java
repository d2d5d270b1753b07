/** Long runs of calls, the same on the class and on the plain one beside it: all answers must agree. */
public final class RandomRunsTest {
    private static final int RUNS = 400;
    private static final int CALLS = 220;
    private long seed;

    private RandomRunsTest(long seed) {
        this.seed = seed * 2654435761L + 12345;
    }

    /** A number below the bound; always the same ones for the same run. */
    private int any(int bound) {
        seed = seed * 6364136223846793005L + 1442695040888963407L;
        return (int) ((seed >>> 33) % bound);
    }

    private char of(String signs) {
        return signs.charAt(any(signs.length()));
    }

    private String formula(int deep, String ops) {
        if (deep <= 0 || any(8) == 0) {
            return "" + of("aabbcd01");
        }
        char op = of(ops);
        switch (op) {
            case '&': case '|': case '>': case '=':
                return "(" + formula(deep - 1, ops) + op + formula(deep - 1, ops) + ")";
            case '[': return "[" + formula(deep - 1, ops) + "]" + formula(deep - 1, ops);
            case '{': return "{" + formula(deep - 1, ops) + "}" + formula(deep - 1, ops);
            case 'K': case 'P': return "" + op + of("1234") + formula(deep - 1, ops);
            case 'E': case 'C': case 'D': return "" + op + group() + formula(deep - 1, ops);
            default: return op + formula(deep - 1, ops);
        }
    }

    private String group() {
        String[] groups = {"1", "12", "13", "23", "123", "1234", "4", "24", "34", "2"};
        return groups[any(groups.length)];
    }

    /** Mostly a formula; at times with signs that should not be there, or without some. */
    private String text() {
        String[] kinds = {"~&|>=KPECD[{", "~&|>KPKP[{", "~&KPKEC", "~&|>=KC", "&|KP[", "KKPEC~"};
        String text = formula(1 + any(5), kinds[any(kinds.length)]);
        for (int i = any(4) == 0 ? 1 + any(2) : 0; i > 0; i--) {
            int at = any(text.length() + 1);
            String with = any(3) == 0 ? "" : "" + of("()[]{}~&|>=KPECD12345abh01 zx");
            text = text.substring(0, at) + with + text.substring(Math.min(at + any(2), text.length()));
        }
        if (any(6) == 0) {
            text = text.replace("(", any(2) == 0 ? " ( " : "").replace(")", any(2) == 0 ? ") " : "");
        }
        return text;
    }

    private static void same(long run, String call, int want, int got) {
        Check.due("run " + run + ": " + call, want, got);
    }

    private void collect(long run, KnowledgeRoom x, PlainRoom y, String text) {
        int i = 0;
        while (i < text.length()) {
            if (any(2) == 0) {
                same(run, "type", y.type(text.charAt(i)), x.type(text.charAt(i)));
                i++;
            } else {
                int signs = 0;
                for (int k = 0; k < 4; k++) {
                    signs = signs << 8 | (i < text.length() && any(5) > 0 ? text.charAt(i++) : 0);
                }
                same(run, "four(" + signs + ")", y.four(signs), x.four(signs));
            }
        }
    }

    private void wrongSigns(long run, KnowledgeRoom x, PlainRoom y) {
        int c = any(300) - 50;
        same(run, "type(" + c + ")", y.type(c), x.type(c));
        int signs = any(1 << 16) << 16 | any(1 << 16);
        same(run, "four(" + signs + ")", y.four(signs), x.four(signs));
    }

    private void lookAround(long run, KnowledgeRoom x, PlainRoom y) {
        for (int w = -1; w <= y.count(0); w++) {
            for (int what = -1; what <= 5; what++) {
                same(run, "told(" + w + ", " + what + ")", y.told(w, what), x.told(w, what));
            }
            same(run, "holds(" + w + ")", y.holds(w), x.holds(w));
        }
        for (int what = -1; what <= 6; what++) {
            same(run, "count(" + what + ")", y.count(what), x.count(what));
        }
    }

    private void tellAll(long run, KnowledgeRoom x, PlainRoom y) {
        int size = y.tell();
        same(run, "tell", size, x.tell());
        for (int i = -1; i <= size; i++) {
            same(run, "letter(" + i + ")", y.letter(i), x.letter(i));
        }
    }

    private void decideAll(long run, KnowledgeRoom x, PlainRoom y) {
        int[] answers = y.decisions(7);
        if (answers != null) {
            for (int what = 0; what < 6; what++) {
                same(run, "decide(" + what + ")", answers[what], x.decide(what));
            }
        }
        same(run, "decide(-1)", -1, x.decide(-1));
        same(run, "decide(6)", -1, x.decide(6));
    }

    private void build(long run, KnowledgeRoom x, PlainRoom y) {
        int agent = any(20) == 0 ? any(7) - 1 : 1 + any(4);
        int size = y.count(0) + (any(10) == 0 ? 2 : 0);
        int u = any(size + 1) - (any(15) == 0 ? 1 : 0);
        int v = any(size + 1);
        switch (any(10)) {
            case 0: case 1: case 2: case 3: {
                int atoms = any(25) == 0 ? any(1000) - 300 : any(any(2) == 0 ? 4 : 16);
                same(run, "world(" + atoms + ")", y.world(atoms), x.world(atoms));
                break;
            }
            case 4: case 5: case 6: case 7:
                same(run, "tie " + agent + " " + u + " " + v, y.tie(agent, u, v), x.tie(agent, u, v));
                break;
            case 8:
                same(run, "alone " + agent + " " + u, y.alone(agent, u), x.alone(agent, u));
                break;
            default: {
                int which = any(10) == 0 ? any(12) - 2 : any(4);
                boolean is = any(2) == 0;
                same(run, "atom", y.atom(u, which, is), x.atom(u, which, is));
            }
        }
    }

    private void occur(long run, KnowledgeRoom x, PlainRoom y) {
        int size = y.count(1) + (any(10) == 0 ? 2 : 0);
        int e = any(size + 1) - (any(15) == 0 ? 1 : 0);
        int f = any(size + 1);
        int agent = any(20) == 0 ? any(7) - 1 : 1 + any(4);
        switch (any(16)) {
            case 0: case 1: case 2:
                same(run, "event", y.event(), x.event());
                break;
            case 3: case 4: case 5:
                same(run, "tieEvents", y.tieEvents(agent, e, f), x.tieEvents(agent, e, f));
                break;
            case 6: case 7: {
                int which = any(10) == 0 ? any(12) - 2 : any(4);
                same(run, "change", y.change(e, which), x.change(e, which));
                break;
            }
            case 8:
                same(run, "noEvents", y.noEvents(), x.noEvents());
                break;
            case 9: case 10:
                same(run, "say", y.say(), x.say());
                break;
            case 11: case 12:
                same(run, "back", y.back(), x.back());
                break;
            case 13:
                same(run, "contract", y.contract(), x.contract());
                break;
            default:
                same(run, "happen", y.happen(), x.happen());
        }
    }

    private void play(long run) {
        KnowledgeRoom x = new KnowledgeRoom();
        PlainRoom y = new PlainRoom();
        lookAround(run, x, y);
        for (int i = any(20); i > 0; i--) {
            build(run, x, y);
        }
        int calls = CALLS;
        while (calls-- > 0) {
            switch (any(24)) {
                case 0: case 1: build(run, x, y); break;
                case 2: case 3: case 4: case 5: case 6: occur(run, x, y); break;
                case 7: lookAround(run, x, y); break;
                case 8: tellAll(run, x, y); break;
                case 9: case 10: decideAll(run, x, y); break;
                case 11: same(run, "reduce", y.reduce(), x.reduce()); break;
                case 12: same(run, "worlds", y.worlds(), x.worlds()); break;
                case 13: case 14: {
                    int u = any(y.count(0) + 1);
                    int v = any(y.count(0) + 1) - (any(9) == 0 ? 1 : 0);
                    same(run, "differ " + u + " " + v, y.differ(u, v), x.differ(u, v));
                    break;
                }
                case 15: if (any(8) == 0) { wrongSigns(run, x, y); } break;
                default:
                    collect(run, x, y, text());
                    same(run, "formula", y.formula(), x.formula());
            }
        }
        lookAround(run, x, y);
        tellAll(run, x, y);
    }

    public static void main(String[] args) {
        int runs = args.length > 0 ? Integer.parseInt(args[0]) : RUNS;
        for (long run = 0; run < runs; run++) {
            new RandomRunsTest(run).play(run);
        }
        Check.end();
    }
}
