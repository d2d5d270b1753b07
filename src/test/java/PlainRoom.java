import java.util.ArrayDeque;
import java.util.ArrayList;
import java.util.Arrays;
import java.util.Deque;
import java.util.HashMap;
import java.util.HashSet;
import java.util.LinkedHashSet;
import java.util.List;
import java.util.Map;
import java.util.Set;
import java.util.TreeSet;

/**
 * The document once more, word for word and slowly: trees, sets and recursion, nothing of the class
 * under test. Random runs ask both and compare.
 */
final class PlainRoom {
    static final int BAD = -1, NONE = -2, GREAT = -3;

    /** A formula: an operator with agents (as a rising text) and its parts. */
    static final class Tree {
        final char op;
        final String agents;
        final Tree a;
        final Tree b;

        Tree(char op, String agents, Tree a, Tree b) {
            this.op = op;
            this.agents = agents;
            this.a = a;
            this.b = b;
        }

        int nodes() {
            return 1 + (a == null ? 0 : a.nodes()) + (b == null ? 0 : b.nodes());
        }

        boolean has(String ops) {
            return ops.indexOf(op) >= 0 || a != null && a.has(ops) || b != null && b.has(ops);
        }

        int deep() {
            int parts = Math.max(a == null ? 0 : a.deep(), b == null ? 0 : b.deep());
            return parts + ("KPECD".indexOf(op) >= 0 ? 1 : 0);
        }

        String text(boolean whole) {
            if ("=>|&".indexOf(op) >= 0) {
                String text = a.text(false) + op + b.text(false);
                return whole ? text : "(" + text + ")";
            }
            if (op == '[') {
                return "[" + a.text(true) + "]" + b.text(false);
            }
            if (op == '{') {
                return "{" + a.text(true) + "}" + b.text(false);
            }
            return op + agents + (a == null ? "" : a.text(false));
        }
    }

    static Tree tree(char op, Tree a, Tree b) {
        return new Tree(op, "", a, b);
    }

    // ---- reading

    private static final class Fault extends RuntimeException {
        final int place;

        Fault(int place) {
            super("", null, false, false);
            this.place = place;
        }
    }

    /** Straight from the grammar; a node is counted when its own first sign comes. */
    private static final class Grammar {
        final String text;
        int at = 0;
        int nodes = 0;

        Grammar(String text) {
            this.text = text;
            blanks();
        }

        void blanks() {
            while (at < text.length() && text.charAt(at) == ' ') {
                at++;
            }
        }

        char peek() {
            return at < text.length() ? text.charAt(at) : 0;
        }

        char next() {
            char c = peek();
            at++;
            blanks();
            return c;
        }

        void node() {
            if (++nodes > 150) {
                throw new Fault(at);
            }
        }

        void need(char c) {
            if (peek() != c) {
                throw new Fault(at);
            }
            next();
        }

        Tree all() {
            Tree tree = formula(0);
            if (at < text.length()) {
                throw new Fault(at);
            }
            return tree;
        }

        Tree formula(int within) {
            Tree left = imp(within);
            if (peek() == '=') {
                node();
                next();
                left = tree('=', left, imp(within));
            }
            return left;
        }

        Tree imp(int within) {
            Tree left = or(within);
            if (peek() == '>') {
                node();
                next();
                left = tree('>', left, imp(within));
            }
            return left;
        }

        Tree or(int within) {
            Tree left = and(within);
            while (peek() == '|') {
                node();
                next();
                left = tree('|', left, and(within));
            }
            return left;
        }

        Tree and(int within) {
            Tree left = one(within, 0);
            while (peek() == '&') {
                node();
                next();
                left = tree('&', left, one(within, 0));
            }
            return left;
        }

        Tree inner(int within, char close) {
            if (within + 1 > 15) {
                throw new Fault(at);
            }
            next();
            Tree tree = formula(within + 1);
            need(close);
            return tree;
        }

        Tree one(int within, int behind) {
            if (behind > 30) {
                throw new Fault(at);
            }
            char c = peek();
            if (c == '(') {
                return inner(within, ')');
            }
            if (c == '[' || c == '{') {
                node();
                Tree said = inner(within, c == '[' ? ']' : '}');
                return tree(c, said, one(within, behind + 1));
            }
            if (c != 0 && "abcdefgh01".indexOf(c) >= 0) {
                node();
                next();
                return tree(c, null, null);
            }
            if (c == '~') {
                node();
                next();
                return tree(c, one(within, behind + 1), null);
            }
            if (c != 0 && "KPECD".indexOf(c) >= 0) {
                node();
                next();
                String agents = "";
                int most = c == 'K' || c == 'P' ? 1 : 4;
                while (agents.length() < most && peek() >= '1' && peek() <= '4'
                        && (agents.isEmpty() || peek() > agents.charAt(agents.length() - 1))) {
                    agents += next();
                }
                if (agents.isEmpty()) {
                    throw new Fault(at);
                }
                return new Tree(c, agents, one(within, behind + 1), null);
            }
            throw new Fault(at);
        }
    }

    // ---- the state

    private static final class Model {
        int size = 0;
        final List<Integer> atoms = new ArrayList<>();
        // Of each agent, the number of each world's cell.
        final List<List<Integer>> cells = new ArrayList<>();

        Model() {
            for (int i = 0; i < 4; i++) {
                cells.add(new ArrayList<>());
            }
        }

        boolean same(int agent, int u, int v) {
            return cells.get(agent - 1).get(u).equals(cells.get(agent - 1).get(v));
        }
    }

    private static final class Event {
        final Tree must;
        final Map<Integer, Tree> changes = new HashMap<>();
        final int[] cell = new int[4];

        Event(Tree must) {
            this.must = must;
        }
    }

    private Model now = new Model();
    private final Deque<Model> past = new ArrayDeque<>();
    private final List<Event> events = new ArrayList<>();
    private Tree hand = tree('1', null, null);
    private String collected = "";
    private String told = "";
    private int fresh = 0;

    private boolean has(int w) {
        return w >= 0 && w < now.size;
    }

    private static boolean agent(int agent) {
        return agent >= 1 && agent <= 4;
    }

    int world(int atoms) {
        if ((atoms & ~255) != 0 || now.size == 64) {
            return BAD;
        }
        past.clear();
        now.atoms.add(atoms);
        for (List<Integer> cell : now.cells) {
            cell.add(fresh++);
        }
        return now.size++;
    }

    int tie(int agent, int u, int v) {
        if (!agent(agent) || !has(u) || !has(v)) {
            return BAD;
        }
        past.clear();
        List<Integer> cell = now.cells.get(agent - 1);
        int from = cell.get(u);
        int to = cell.get(v);
        int size = 0;
        for (int w = 0; w < now.size; w++) {
            if (cell.get(w) == from) {
                cell.set(w, to);
            }
            size += cell.get(w) == to ? 1 : 0;
        }
        return size;
    }

    int alone(int agent, int w) {
        if (!agent(agent) || !has(w)) {
            return BAD;
        }
        past.clear();
        int others = 0;
        for (int v = 0; v < now.size; v++) {
            others += v != w && now.same(agent, v, w) ? 1 : 0;
        }
        now.cells.get(agent - 1).set(w, fresh++);
        return others;
    }

    int atom(int w, int which, boolean is) {
        if (!has(w) || which < 0 || which > 7) {
            return BAD;
        }
        past.clear();
        int was = now.atoms.get(w);
        now.atoms.set(w, is ? was | 1 << which : was & ~(1 << which));
        return was >> which & 1;
    }

    int told(int w, int what) {
        if (!has(w) || what < 0 || what > 4) {
            return BAD;
        }
        if (what == 0) {
            return now.atoms.get(w);
        }
        int v = 0;
        while (!now.same(what, v, w)) {
            v++;
        }
        return v;
    }

    int type(int c) {
        if (c < 32 || c > 126 || collected.length() == 200) {
            return BAD;
        }
        collected += (char) c;
        return collected.length();
    }

    int four(int signs) {
        String more = "";
        for (int i = 3; i >= 0; i--) {
            int c = signs >>> 8 * i & 255;
            if (c != 0 && (c < 32 || c > 126)) {
                return BAD;
            }
            more += c == 0 ? "" : "" + (char) c;
        }
        if (collected.length() + more.length() > 200) {
            return BAD;
        }
        collected += more;
        return collected.length();
    }

    int formula() {
        String text = collected;
        collected = "";
        try {
            hand = new Grammar(text).all();
            return hand.nodes();
        } catch (Fault fault) {
            return -10 - Math.min(fault.place, text.length());
        }
    }

    // ---- holding

    private static Set<Integer> everything(Model model) {
        Set<Integer> all = new TreeSet<>();
        for (int w = 0; w < model.size; w++) {
            all.add(w);
        }
        return all;
    }

    private static boolean holds(Model m, Tree f, int w, Set<Integer> there) {
        switch (f.op) {
            case '0': return false;
            case '1': return true;
            case '~': return !holds(m, f.a, w, there);
            case '&': return holds(m, f.a, w, there) && holds(m, f.b, w, there);
            case '|': return holds(m, f.a, w, there) || holds(m, f.b, w, there);
            case '>': return !holds(m, f.a, w, there) || holds(m, f.b, w, there);
            case '=': return holds(m, f.a, w, there) == holds(m, f.b, w, there);
            case '[': return !holds(m, f.a, w, there) || holds(m, f.b, w, saidIn(m, f.a, there));
            case '{': return holds(m, f.a, w, there) && holds(m, f.b, w, saidIn(m, f.a, there));
            case 'K': case 'P': case 'E': case 'C': case 'D': return knows(m, f, w, there);
            default: return (m.atoms.get(w) >> f.op - 'a' & 1) != 0;
        }
    }

    private static Set<Integer> saidIn(Model m, Tree f, Set<Integer> there) {
        Set<Integer> left = new TreeSet<>();
        for (int w : there) {
            if (holds(m, f, w, there)) {
                left.add(w);
            }
        }
        return left;
    }

    private static boolean knows(Model m, Tree f, int w, Set<Integer> there) {
        Set<Integer> where = new LinkedHashSet<>();
        if (f.op == 'C') {
            Deque<Integer> open = new ArrayDeque<>(List.of(w));
            while (!open.isEmpty()) {
                int u = open.pop();
                for (int v : there) {
                    if (tied(m, f.agents, u, v, true) && where.add(v)) {
                        open.push(v);
                    }
                }
            }
        } else {
            for (int v : there) {
                if (tied(m, f.agents, w, v, f.op != 'D')) {
                    where.add(v);
                }
            }
        }
        for (int v : where) {
            if (holds(m, f.a, v, there) == (f.op == 'P')) {
                return f.op == 'P';
            }
        }
        return f.op != 'P';
    }

    private static boolean tied(Model m, String agents, int u, int v, boolean any) {
        for (char agent : agents.toCharArray()) {
            if (m.same(agent - '0', u, v) == any) {
                return any;
            }
        }
        return !any;
    }

    int holds(int w) {
        return has(w) ? holds(now, hand, w, everything(now)) ? 1 : 0 : BAD;
    }

    int worlds() {
        return saidIn(now, hand, everything(now)).size();
    }

    int tell() {
        told = hand.text(true);
        return told.length();
    }

    int letter(int i) {
        return i < 0 || i >= told.length() ? NONE : told.charAt(i);
    }

    // ---- saying, happening

    private void step(Model next) {
        past.push(now);
        if (past.size() > 12) {
            past.removeLast();
        }
        now = next;
    }

    private void addTo(Model model, int atoms, int[] cells) {
        model.atoms.add(atoms);
        for (int i = 0; i < 4; i++) {
            model.cells.get(i).add(cells[i]);
        }
        model.size++;
    }

    private int[] cellsOf(int w) {
        int[] cells = new int[4];
        for (int i = 0; i < 4; i++) {
            cells[i] = now.cells.get(i).get(w);
        }
        return cells;
    }

    int say() {
        Set<Integer> left = saidIn(now, hand, everything(now));
        if (!left.isEmpty() && left.size() < now.size) {
            Model next = new Model();
            for (int w : left) {
                addTo(next, now.atoms.get(w), cellsOf(w));
            }
            step(next);
        }
        return left.size();
    }

    int event() {
        if (events.size() == 8 || hand.nodes() > 150) {
            return BAD;
        }
        Event event = new Event(hand);
        for (int i = 0; i < 4; i++) {
            event.cell[i] = fresh++;
        }
        events.add(event);
        return events.size() - 1;
    }

    private boolean hasEvent(int e) {
        return e >= 0 && e < events.size();
    }

    int tieEvents(int agent, int e, int f) {
        if (!agent(agent) || !hasEvent(e) || !hasEvent(f)) {
            return BAD;
        }
        int from = events.get(e).cell[agent - 1];
        int to = events.get(f).cell[agent - 1];
        int size = 0;
        for (Event event : events) {
            if (event.cell[agent - 1] == from) {
                event.cell[agent - 1] = to;
            }
            size += event.cell[agent - 1] == to ? 1 : 0;
        }
        return size;
    }

    int change(int e, int which) {
        if (!hasEvent(e) || which < 0 || which > 7 || hand.nodes() > 150) {
            return BAD;
        }
        events.get(e).changes.put(which, hand);
        return 0;
    }

    int noEvents() {
        int were = events.size();
        events.clear();
        return were;
    }

    int happen() {
        Model next = new Model();
        Set<Integer> all = everything(now);
        Map<String, Integer> names = new HashMap<>();
        for (int w = 0; w < now.size; w++) {
            for (Event event : events) {
                if (holds(now, event.must, w, all)) {
                    int atoms = now.atoms.get(w);
                    for (Map.Entry<Integer, Tree> change : event.changes.entrySet()) {
                        int bit = 1 << change.getKey();
                        boolean is = holds(now, change.getValue(), w, all);
                        atoms = is ? atoms | bit : atoms & ~bit;
                    }
                    int[] cells = new int[4];
                    for (int i = 0; i < 4; i++) {
                        String name = i + " " + now.cells.get(i).get(w) + " " + event.cell[i];
                        if (!names.containsKey(name)) {
                            names.put(name, fresh++);
                        }
                        cells[i] = names.get(name);
                    }
                    addTo(next, atoms, cells);
                }
            }
        }
        if (next.size == 0 || next.size > 64) {
            return next.size == 0 ? 0 : GREAT;
        }
        step(next);
        return now.size;
    }

    int back() {
        if (past.isEmpty()) {
            return BAD;
        }
        now = past.pop();
        return now.size;
    }

    // ---- alike worlds

    /** Of each two worlds, by how much they differ: first who does by 0, then by 1, .. */
    private int[][] differences() {
        int n = now.size;
        int[][] by = new int[n][n];
        for (int[] row : by) {
            Arrays.fill(row, NONE);
        }
        for (int u = 0; u < n; u++) {
            for (int v = 0; v < n; v++) {
                by[u][v] = now.atoms.get(u).equals(now.atoms.get(v)) ? NONE : 0;
            }
        }
        boolean more = true;
        for (int k = 1; more; k++) {
            more = false;
            for (int u = 0; u < n; u++) {
                for (int v = 0; v < n; v++) {
                    if (by[u][v] == NONE && (unmatched(by, u, v, k) || unmatched(by, v, u, k))) {
                        by[u][v] = k;
                        more = true;
                    }
                }
            }
        }
        return by;
    }

    /** Whether an agent takes something for possible in u that differs by less than k from all in v. */
    private boolean unmatched(int[][] by, int u, int v, int k) {
        for (int agent = 1; agent <= 4; agent++) {
            for (int x = 0; x < now.size; x++) {
                boolean matched = !now.same(agent, u, x);
                for (int y = 0; y < now.size && !matched; y++) {
                    matched = now.same(agent, v, y) && (by[x][y] == NONE || by[x][y] >= k);
                }
                if (!matched) {
                    return true;
                }
            }
        }
        return false;
    }

    int differ(int u, int v) {
        return has(u) && has(v) ? differences()[u][v] : BAD;
    }

    int contract() {
        int[][] by = differences();
        List<Integer> stay = new ArrayList<>();
        for (int w = 0; w < now.size; w++) {
            boolean first = true;
            for (int v = 0; v < w; v++) {
                first &= by[v][w] != NONE;
            }
            if (first) {
                stay.add(w);
            }
        }
        if (stay.size() == now.size) {
            return now.size;
        }
        Model next = new Model();
        for (int x = 0; x < stay.size(); x++) {
            int[] cells = new int[4];
            for (int i = 0; i < 4; i++) {
                cells[i] = fresh++;
                for (int y = 0; y < x; y++) {
                    if (someTied(by, i + 1, stay.get(x), stay.get(y))) {
                        cells[i] = next.cells.get(i).get(y);
                    }
                }
            }
            addTo(next, now.atoms.get(stay.get(x)), cells);
        }
        step(next);
        return now.size;
    }

    private boolean someTied(int[][] by, int agent, int u, int v) {
        for (int x = 0; x < now.size; x++) {
            for (int y = 0; y < now.size; y++) {
                if (by[u][x] == NONE && by[v][y] == NONE && now.same(agent, x, y)) {
                    return true;
                }
            }
        }
        return false;
    }

    // ---- reducing

    /** One rule at the first place from the left that has none within; null if there is no such place. */
    private static Tree reducedOnce(Tree f) {
        if (f == null || !f.has("[{")) {
            return null;
        }
        Tree a = reducedOnce(f.a);
        if (a != null) {
            return new Tree(f.op, f.agents, a, f.b);
        }
        Tree b = reducedOnce(f.b);
        if (b != null) {
            return new Tree(f.op, f.agents, f.a, b);
        }
        return rule(f);
    }

    private static Tree rule(Tree f) {
        Tree said = f.a;
        Tree g = f.b;
        if (f.op == '{') {
            return tree('~', tree('[', said, tree('~', g, null)), null);
        }
        switch (g.op) {
            case '~': return tree('>', said, tree('~', tree('[', said, g.a), null));
            case '&': case '|': case '>': case '=':
                return tree(g.op, tree('[', said, g.a), tree('[', said, g.b));
            case 'K': return tree('>', said, new Tree('K', g.agents, tree('[', said, g.a), null));
            case 'P': return tree('>', said,
                new Tree('P', g.agents, tree('&', said, tree('[', said, g.a)), null));
            default: return tree('>', said, g);
        }
    }

    int reduce() {
        if (hand.has("ECD")) {
            return BAD;
        }
        Tree f = hand;
        for (Tree next = f; next != null; next = reducedOnce(f)) {
            f = next;
            if (f.nodes() > 2000) {
                return GREAT;
            }
        }
        hand = f;
        return f.nodes();
    }

    // ---- deciding

    private static Tree plain(Tree f) {
        if (f == null) {
            return null;
        }
        Tree a = plain(f.a);
        if (f.op == 'P') {
            return tree('~', new Tree('K', f.agents, tree('~', a, null), null), null);
        }
        if (f.op == 'E') {
            Tree all = null;
            for (char agent : f.agents.toCharArray()) {
                Tree one = new Tree('K', "" + agent, a, null);
                all = all == null ? one : tree('&', all, one);
            }
            return all;
        }
        return new Tree(f.op, f.agents, a, plain(f.b));
    }

    private static void base(Tree f, Map<String, Tree> base) {
        if (f == null || base.size() > 13) {
            return;
        }
        if (f.op == 'K' || f.op == 'C' || f.op >= 'a' && f.op <= 'h') {
            base.put(f.text(true), f);
        }
        if (f.op == 'C') {
            for (char agent : f.agents.toCharArray()) {
                Tree known = new Tree('K', "" + agent, f, null);
                base.put(known.text(true), known);
            }
        }
        base(f.a, base);
        base(f.b, base);
    }

    private static boolean by(Map<String, Boolean> type, Tree f) {
        switch (f.op) {
            case '0': return false;
            case '1': return true;
            case '~': return !by(type, f.a);
            case '&': return by(type, f.a) && by(type, f.b);
            case '|': return by(type, f.a) || by(type, f.b);
            case '>': return !by(type, f.a) || by(type, f.b);
            case '=': return by(type, f.a) == by(type, f.b);
            default: return type.get(f.text(true));
        }
    }

    private static boolean lawful(Map<String, Boolean> type, Map<String, Tree> base) {
        for (Tree f : base.values()) {
            if ((f.op == 'K' || f.op == 'C') && by(type, f)) {
                if (!by(type, f.a)) {
                    return false;
                }
                for (char agent : f.op == 'C' ? f.agents.toCharArray() : new char[0]) {
                    if (!by(type, new Tree('K', "" + agent, f, null))) {
                        return false;
                    }
                }
            }
        }
        return true;
    }

    private static String view(Map<String, Boolean> type, Map<String, Tree> base, char agent) {
        StringBuilder view = new StringBuilder();
        for (Map.Entry<String, Tree> one : base.entrySet()) {
            if (one.getValue().op == 'K' && one.getValue().agents.charAt(0) == agent) {
                view.append(type.get(one.getKey()) ? '1' : '0');
            }
        }
        return view.toString();
    }

    private static boolean goes(Map<String, Boolean> type, Map<String, Tree> base,
            List<Map<String, Boolean>> left) {
        for (Tree f : base.values()) {
            if (f.op != 'K' && f.op != 'C' || by(type, f)) {
                continue;
            }
            Set<Integer> come = new HashSet<>();
            Deque<Map<String, Boolean>> open = new ArrayDeque<>(List.of(type));
            boolean doubt = false;
            while (!open.isEmpty()) {
                Map<String, Boolean> from = open.pop();
                for (int i = 0; i < left.size(); i++) {
                    for (char agent : f.agents.toCharArray()) {
                        if (view(from, base, agent).equals(view(left.get(i), base, agent))
                                && come.add(i)) {
                            doubt |= !by(left.get(i), f.a);
                            if (f.op == 'C') {
                                open.push(left.get(i));
                            }
                        }
                    }
                }
            }
            if (!doubt) {
                return true;
            }
        }
        return false;
    }

    /** The six answers; those of a great BASE are left to the class if it is too slow here. */
    int[] decisions(int mostBase) {
        int[] answers = new int[6];
        if (hand.has("D[{")) {
            Arrays.fill(answers, BAD);
            return answers;
        }
        Map<String, Tree> base = new HashMap<>();
        Tree f = plain(hand);
        base(f, base);
        if (base.size() > 13) {
            Arrays.fill(answers, GREAT);
            return answers;
        }
        answers[2] = base.size();
        if (base.size() > mostBase) {
            return null;
        }
        List<String> names = new ArrayList<>(base.keySet());
        List<Map<String, Boolean>> left = new ArrayList<>();
        for (int bits = 0; bits < 1 << names.size(); bits++) {
            Map<String, Boolean> type = new HashMap<>();
            for (int j = 0; j < names.size(); j++) {
                type.put(names.get(j), (bits >> j & 1) != 0);
            }
            if (lawful(type, base)) {
                left.add(type);
            }
        }
        answers[3] = left.size();
        boolean more = true;
        while (more) {
            List<Map<String, Boolean>> stay = new ArrayList<>();
            for (Map<String, Boolean> type : left) {
                if (!goes(type, base, left)) {
                    stay.add(type);
                }
            }
            more = stay.size() < left.size();
            left = stay;
        }
        answers[4] = left.size();
        for (Map<String, Boolean> type : left) {
            answers[5] += by(type, f) ? 1 : 0;
        }
        answers[0] = answers[5] > 0 ? 1 : 0;
        answers[1] = answers[5] == answers[4] ? 1 : 0;
        return answers;
    }

    int count(int what) {
        switch (what) {
            case 0: return now.size;
            case 1: return events.size();
            case 2: return hand.nodes();
            case 3: return collected.length();
            case 4: return past.size();
            case 5: return hand.deep();
            default: return BAD;
        }
    }
}
