import java.util.Arrays;

/**
 * Worlds, agents who may not tell some of them from others, and formulas of what those know.
 *
 * <p>Every row is made in a constructor and used again: no call makes an object. No method calls
 * itself: formulas are rows of tokens, gone through with stacks that are rows too.
 */
public final class KnowledgeRoom {
    public static final int BAD = -1, NONE = -2, GREAT = -3;

    private static final int MOST_WORLDS = 64;
    private static final int MOST_EVENTS = 8;
    private static final int MOST_KEPT = 12;
    private static final int ATOMS = 8;
    private static final int AGENTS = 4;
    private static final int MOST_SIGNS = 200;
    private static final int MOST_NODES = 150;
    private static final int MOST_WITHIN = 15;
    private static final int MOST_BEHIND = 30;
    private static final int MOST_REDUCED = 2000;
    private static final int FIRST_FAULT = -10;
    private static final int DECISIONS = 6;

    private final Worlds now = new Worlds();
    private final Past past = new Past();
    private final Events events = new Events();
    private final Reader reader = new Reader();
    private final Formula hand = new Formula(MOST_REDUCED);
    private final Text text = new Text();
    private final Judge judge = new Judge();
    private final Likeness likeness = new Likeness();
    private final Reducer reducer = new Reducer();
    private final Decider decider = new Decider();
    private final int[] chosen = new int[MOST_WORLDS];
    private final int[] depths = new int[MOST_REDUCED];
    private long truth;
    private boolean judged;
    private boolean decided;

    public KnowledgeRoom() {
        hand.add('1');
    }

    // ---- worlds

    public int world(int atoms) {
        if (atoms < 0 || atoms >= 1 << ATOMS || now.size >= MOST_WORLDS) {
            return BAD;
        }
        worldsEdited();
        return now.add(atoms);
    }

    public int tie(int agent, int u, int v) {
        if (!isAgent(agent) || !now.has(u) || !now.has(v)) {
            return BAD;
        }
        worldsEdited();
        return now.merge(agent - 1, u, v);
    }

    public int alone(int agent, int w) {
        if (!isAgent(agent) || !now.has(w)) {
            return BAD;
        }
        worldsEdited();
        return now.part(agent - 1, w);
    }

    public int atom(int w, int which, boolean is) {
        if (!now.has(w) || !isAtom(which)) {
            return BAD;
        }
        worldsEdited();
        int was = (int) (now.atoms[which] >>> w & 1L);
        now.setAtom(w, which, is);
        return was;
    }

    public int told(int w, int what) {
        if (!now.has(w) || what < 0 || what > AGENTS) {
            return BAD;
        }
        return what == 0 ? now.atomsOf(w) : lowest(now.cell(what - 1, w));
    }

    // ---- formulas

    public int type(int c) {
        return reader.collect(c);
    }

    public int four(int signs) {
        return reader.collectFour(signs);
    }

    public int formula() {
        int answer = reader.read(hand);
        if (answer > 0) {
            handChanged();
        }
        return answer;
    }

    public int holds(int w) {
        if (!now.has(w)) {
            return BAD;
        }
        return (int) (truths() >>> w & 1L);
    }

    public int worlds() {
        return Long.bitCount(truths());
    }

    public int tell() {
        return text.write(hand);
    }

    public int letter(int i) {
        if (i < 0 || i >= text.size) {
            return NONE;
        }
        return text.signs[i];
    }

    // ---- saying, happening

    public int say() {
        int left = choose(truths());
        if (left > 0 && left < now.size) {
            Worlds old = keptWorlds();
            now.take(old, old.cells, chosen, left);
        }
        return left;
    }

    public int event() {
        return events.add(hand);
    }

    public int tieEvents(int agent, int e, int f) {
        if (!isAgent(agent) || !events.has(e) || !events.has(f)) {
            return BAD;
        }
        return events.merge(agent - 1, e, f);
    }

    public int change(int e, int which) {
        if (!events.has(e) || !isAtom(which) || hand.size > MOST_NODES) {
            return BAD;
        }
        events.setChange(e, which, hand);
        return 0;
    }

    public int noEvents() {
        int were = events.size;
        events.size = 0;
        return were;
    }

    public int happen() {
        int pairs = events.pair(now, judge);
        if (pairs > MOST_WORLDS) {
            return GREAT;
        }
        if (pairs > 0) {
            Worlds old = keptWorlds();
            now.take(old, old.cells, events.worldOf, pairs);
            events.narrowCells(now);
            events.changeAtoms(now, old, judge);
        }
        return pairs;
    }

    public int back() {
        if (past.size == 0) {
            return BAD;
        }
        past.restore(now);
        judged = false;
        return now.size;
    }

    // ---- alike worlds

    public int contract() {
        likeness.settle(now);
        int left = choose(likeness.firsts(now));
        if (left < now.size) {
            Worlds old = keptWorlds();
            now.take(old, likeness.seen, chosen, left);
        }
        return left;
    }

    public int differ(int u, int v) {
        if (!now.has(u) || !now.has(v)) {
            return BAD;
        }
        return likeness.difference(now, u, v);
    }

    // ---- reducing, deciding

    public int reduce() {
        int answer = reducer.apply(hand);
        if (answer > 0) {
            handChanged();
        }
        return answer;
    }

    public int decide(int what) {
        if (what < 0 || what >= DECISIONS) {
            return BAD;
        }
        if (!decided) {
            decider.work(hand);
            decided = true;
        }
        return decider.answers[what];
    }

    public int count(int what) {
        switch (what) {
            case 0: return now.size;
            case 1: return events.size;
            case 2: return hand.size;
            case 3: return reader.size;
            case 4: return past.size;
            case 5: return hand.depth(depths);
            default: return BAD;
        }
    }

    private void worldsEdited() {
        past.size = 0;
        judged = false;
    }

    private void handChanged() {
        judged = false;
        decided = false;
    }

    private Worlds keptWorlds() {
        judged = false;
        return past.keep(now);
    }

    private long truths() {
        if (!judged) {
            truth = judge.where(hand, now);
            judged = true;
        }
        return truth;
    }

    private int choose(long which) {
        int size = 0;
        for (int w = 0; w < MOST_WORLDS; w++) {
            if ((which >>> w & 1L) != 0) {
                chosen[size++] = w;
            }
        }
        return size;
    }

    private static boolean isAgent(int agent) {
        return agent >= 1 && agent <= AGENTS;
    }

    private static boolean isAtom(int which) {
        return which >= 0 && which < ATOMS;
    }

    private static int lowest(long set) {
        return Long.bitCount((set & -set) - 1);
    }

    // A token is a NODE's first sign, with the agents that belong to it as bits from 8 on: so two
    // NODES are of one kind just if their tokens are equal.

    private static int signOf(int token) {
        return token & 127;
    }

    private static int agentsOf(int token) {
        return token >> 8;
    }

    private static int withAgents(int sign, int agents) {
        return sign | (agents << 8);
    }

    private static boolean hasAgent(int token, int agent) {
        return (token >> (8 + agent) & 1) != 0;
    }

    private static boolean isLeaf(int sign) {
        return sign >= 'a' && sign <= 'h' || sign == '0' || sign == '1';
    }

    private static boolean isJoin(int sign) {
        return sign == '=' || sign == '>' || sign == '|' || sign == '&';
    }

    private static boolean isSaying(int sign) {
        return sign == '[' || sign == '{';
    }

    private static boolean hasTwoParts(int sign) {
        return isJoin(sign) || isSaying(sign);
    }

    private static boolean isKnowing(int sign) {
        return sign == 'K' || sign == 'P' || sign == 'E' || sign == 'C' || sign == 'D';
    }

    /** A formula's tokens, each ahead of its parts: so every part is one stretch of the row. */
    private static final class Formula {
        final int[] tokens;
        int size;

        Formula(int room) {
            tokens = new int[Math.max(room, 0)];
        }

        boolean add(int token) {
            if (size >= tokens.length) {
                return false;
            }
            tokens[size++] = token;
            return true;
        }

        boolean addAll(int[] row, int from, int end) {
            int more = end - from;
            if (from < 0 || more < 0 || end > row.length || more > tokens.length - size) {
                return false;
            }
            System.arraycopy(row, from, tokens, size, more);
            size += more;
            return true;
        }

        boolean insert(int at, int token) {
            if (at < 0 || at > size || size >= tokens.length) {
                return false;
            }
            for (int i = size; i > at; i--) {
                tokens[i] = tokens[i - 1];
            }
            tokens[at] = token;
            size++;
            return true;
        }

        void copy(Formula other) {
            size = 0;
            addAll(other.tokens, 0, other.size);
        }

        boolean hasAny(String signs) {
            for (int i = 0; i < size; i++) {
                if (signs.indexOf((char) signOf(tokens[i])) >= 0) {
                    return true;
                }
            }
            return false;
        }

        /** How deep K, P, E, C, D stand; the row must have room for a number of each leaf. */
        int depth(int[] row) {
            int held = 0;
            for (int i = size - 1; i >= 0; i--) {
                int sign = signOf(tokens[i]);
                if (isLeaf(sign) && held < row.length) {
                    row[held++] = 0;
                } else if (hasTwoParts(sign) && held >= 2) {
                    held--;
                    row[held - 1] = Math.max(row[held - 1], row[held]);
                } else if (isKnowing(sign) && held >= 1) {
                    row[held - 1]++;
                }
            }
            return held > 0 ? row[0] : 0;
        }
    }

    /** The signs that are collected, and how they become a formula. */
    private static final class Reader {
        private final char[] signs = new char[MOST_SIGNS];
        int size;
        private final Formula draft = new Formula(MOST_NODES);
        // Of each formula that is being read, the outermost first: what ends it, where it, its last
        // 'or' and its last 'and' start in the draft, how many its bracket stands right behind.
        private final char[] closer = new char[MOST_WITHIN + 1];
        private final int[] wholeAt = new int[MOST_WITHIN + 1];
        private final int[] orAt = new int[MOST_WITHIN + 1];
        private final int[] andAt = new int[MOST_WITHIN + 1];
        private final int[] outer = new int[MOST_WITHIN + 1];
        private final boolean[] equated = new boolean[MOST_WITHIN + 1];
        private int level;
        private int behind;
        private boolean wantsOne;
        private int at;

        int collect(int c) {
            if (!isSign(c) || size >= MOST_SIGNS) {
                return BAD;
            }
            signs[size++] = (char) c;
            return size;
        }

        int collectFour(int four) {
            int come = 0;
            for (int shift = 24; shift >= 0; shift -= 8) {
                int c = four >>> shift & 255;
                if (c != 0 && !isSign(c)) {
                    return BAD;
                }
                come += c != 0 ? 1 : 0;
            }
            if (come > MOST_SIGNS - size) {
                return BAD;
            }
            for (int shift = 24; shift >= 0; shift -= 8) {
                int c = four >>> shift & 255;
                if (c != 0) {
                    collect(c);
                }
            }
            return size;
        }

        /** The NODES of what was collected, put into the formula; or the fault. */
        int read(Formula into) {
            draft.size = 0;
            level = -1;
            enter((char) 0);
            toSign(0);
            boolean whole = takeAll();
            size = 0;
            if (!whole) {
                return FIRST_FAULT - at;
            }
            into.copy(draft);
            return into.size;
        }

        private static boolean isSign(int c) {
            return c >= 32 && c <= 126;
        }

        private void toSign(int from) {
            at = from;
            while (at < size && signs[at] == ' ') {
                at++;
            }
        }

        /** Where this or what it calls answers false, at is left on the sign that can't come. */
        private boolean takeAll() {
            for (int step = 0; step < MOST_SIGNS && at < size; step++) {
                char c = signs[at];
                boolean came = wantsOne ? takeOne(c) : takeBehindOne(c);
                if (!came) {
                    return false;
                }
            }
            return at >= size && level == 0 && !wantsOne;
        }

        private boolean takeOne(char c) {
            if (behind > MOST_BEHIND) {
                return false;
            }
            if (c == '(') {
                return takeOpening(c, ')');
            }
            if (draft.size >= MOST_NODES) {
                return false;
            }
            if (isSaying(c)) {
                return takeOpening(c, c == '[' ? ']' : '}');
            }
            if (isKnowing(c)) {
                return takeKnowing(c);
            }
            if (c != '~' && !isLeaf(c)) {
                return false;
            }
            draft.add(c);
            wantsOne = c == '~';
            behind++;
            toSign(at + 1);
            return true;
        }

        private boolean takeOpening(char c, char end) {
            if (level >= MOST_WITHIN) {
                return false;
            }
            if (c != '(') {
                draft.add(c);
            }
            enter(end);
            toSign(at + 1);
            return true;
        }

        private void enter(char end) {
            level++;
            closer[level] = end;
            outer[level] = behind;
            equated[level] = false;
            wholeAt[level] = draft.size;
            orAt[level] = draft.size;
            andAt[level] = draft.size;
            wantFirstOne();
        }

        private void wantFirstOne() {
            behind = 0;
            wantsOne = true;
        }

        private boolean takeKnowing(char c) {
            toSign(at + 1);
            int agents = takeAgents(c == 'K' || c == 'P' ? 1 : AGENTS);
            if (agents == 0) {
                return false;
            }
            draft.add(withAgents(c, agents));
            behind++;
            return true;
        }

        private int takeAgents(int most) {
            int agents = 0;
            char last = '0';
            for (int i = 0; i < most && at < size && signs[at] > last && signs[at] <= '4'; i++) {
                last = signs[at];
                agents |= 1 << (last - '1');
                toSign(at + 1);
            }
            return agents;
        }

        private boolean takeBehindOne(char c) {
            boolean came = c == closer[level] ? leave(c) : takeJoin(c);
            if (came) {
                toSign(at + 1);
            }
            return came;
        }

        private boolean leave(char c) {
            if (level == 0) {
                return false;
            }
            wantsOne = c != ')';
            behind = outer[level] + 1;
            level--;
            return true;
        }

        /** A join is put ahead of what it joins, which is in the draft by then. */
        private boolean takeJoin(char c) {
            if (!isJoin(c) || c == '=' && equated[level]) {
                return false;
            }
            int ahead = c == '=' ? wholeAt[level] : c == '&' ? andAt[level] : orAt[level];
            if (!draft.insert(ahead, c)) {
                return false;
            }
            equated[level] = equated[level] || c == '=';
            orAt[level] = c == '=' || c == '>' ? draft.size : orAt[level];
            andAt[level] = c == '&' ? andAt[level] : draft.size;
            wantFirstOne();
            return true;
        }
    }

    /** The text that was told last. */
    private static final class Text {
        // 2,000 NODES without E, C, D, [ ], { } are 3,999 signs at most, 150 of any kind are fewer:
        // so the document's 20,000 can't be come to.
        private static final int ROOM = 4000;
        private static final int HALF = 1 << 16;
        private static final int BRACKETED = 1 << 17;
        final char[] signs = new char[ROOM];
        int size;
        private final int[] open = new int[MOST_REDUCED];
        private int depth;

        int write(Formula formula) {
            size = 0;
            depth = 0;
            for (int i = 0; i < formula.size; i++) {
                int token = formula.tokens[i];
                if (isLeaf(signOf(token))) {
                    put(signOf(token));
                    finish();
                } else {
                    start(token);
                }
            }
            return size;
        }

        private void start(int token) {
            int sign = signOf(token);
            int state = token;
            if (!isJoin(sign)) {
                put(sign);
                putAgents(token);
            } else if (!isWhole()) {
                put('(');
                state |= BRACKETED;
            }
            if (depth < open.length) {
                open[depth++] = state;
            }
        }

        private boolean isWhole() {
            if (depth == 0) {
                return true;
            }
            int state = open[depth - 1];
            return isSaying(signOf(state)) && (state & HALF) == 0;
        }

        /** A part has ended: so do all in which it was the last one. */
        private void finish() {
            for (int top = depth - 1; top >= 0; top--) {
                int state = open[top];
                int sign = signOf(state);
                if (hasTwoParts(sign) && (state & HALF) == 0) {
                    put(sign == '[' ? ']' : sign == '{' ? '}' : sign);
                    open[top] = state | HALF;
                    depth = top + 1;
                    return;
                }
                if ((state & BRACKETED) != 0) {
                    put(')');
                }
            }
            depth = 0;
        }

        private void putAgents(int token) {
            for (int agent = 0; agent < AGENTS; agent++) {
                if (hasAgent(token, agent)) {
                    put('1' + agent);
                }
            }
        }

        private void put(int sign) {
            if (size < ROOM) {
                signs[size++] = (char) sign;
            }
        }
    }

    /** Worlds as bits: where each ATOM holds, and for each agent the cell of each world. */
    private static final class Worlds {
        int size;
        final long[] atoms = new long[ATOMS];
        final long[] cells = new long[AGENTS * MOST_WORLDS];

        boolean has(int w) {
            return w >= 0 && w < size;
        }

        long all() {
            return size >= MOST_WORLDS ? -1L : (1L << size) - 1;
        }

        long cell(int agent, int w) {
            return cells[agent * MOST_WORLDS + w];
        }

        int add(int bits) {
            int w = size++;
            for (int agent = 0; agent < AGENTS; agent++) {
                cells[agent * MOST_WORLDS + w] = 1L << w;
            }
            for (int which = 0; which < ATOMS; which++) {
                setAtom(w, which, (bits >> which & 1) != 0);
            }
            return w;
        }

        void setAtom(int w, int which, boolean is) {
            long bit = 1L << w;
            atoms[which] = is ? atoms[which] | bit : atoms[which] & ~bit;
        }

        int atomsOf(int w) {
            int bits = 0;
            for (int which = 0; which < ATOMS; which++) {
                bits |= (int) (atoms[which] >>> w & 1L) << which;
            }
            return bits;
        }

        int merge(int agent, int u, int v) {
            long both = cell(agent, u) | cell(agent, v);
            setCells(agent, both, both);
            return Long.bitCount(both);
        }

        int part(int agent, int w) {
            long others = cell(agent, w) & ~(1L << w);
            setCells(agent, others, others);
            setCells(agent, 1L << w, 1L << w);
            return Long.bitCount(others);
        }

        private void setCells(int agent, long which, long to) {
            for (int w = 0; w < size; w++) {
                if ((which >>> w & 1L) != 0) {
                    cells[agent * MOST_WORLDS + w] = to;
                }
            }
        }

        /** All that are in a cell of one of these. */
        long near(int agent, long these) {
            long near = 0;
            for (int w = 0; w < size; w++) {
                if (((these & ~near) >>> w & 1L) != 0) {
                    near |= cells[agent * MOST_WORLDS + w];
                }
            }
            return near;
        }

        void copy(Worlds other) {
            size = other.size;
            System.arraycopy(other.atoms, 0, atoms, 0, ATOMS);
            System.arraycopy(other.cells, 0, cells, 0, cells.length);
        }

        /** Becomes one world for each one named of the old, tied as the rows of those say. */
        void take(Worlds old, long[] rows, int[] from, int many) {
            size = Math.min(many, MOST_WORLDS);
            for (int which = 0; which < ATOMS; which++) {
                atoms[which] = drawn(old.atoms[which], from);
            }
            for (int agent = 0; agent < AGENTS; agent++) {
                int base = agent * MOST_WORLDS;
                for (int w = 0; w < size; w++) {
                    cells[base + w] = drawn(rows[base + from[w]], from);
                }
            }
        }

        private long drawn(long set, int[] from) {
            long drawn = 0;
            for (int w = 0; w < size; w++) {
                drawn |= (set >>> from[w] & 1L) << w;
            }
            return drawn;
        }
    }

    /** The worlds as they were before the last steps, in a ring: the oldest goes for the newest. */
    private static final class Past {
        private final Worlds[] ring = new Worlds[MOST_KEPT];
        private int next;
        int size;

        Past() {
            for (int i = 0; i < MOST_KEPT; i++) {
                ring[i] = new Worlds();
            }
        }

        Worlds keep(Worlds worlds) {
            Worlds kept = ring[next];
            kept.copy(worlds);
            next = next + 1 < MOST_KEPT ? next + 1 : 0;
            size = Math.min(size + 1, MOST_KEPT);
            return kept;
        }

        void restore(Worlds into) {
            next = next > 0 ? next - 1 : MOST_KEPT - 1;
            size--;
            into.copy(ring[next]);
        }
    }

    /** Where a formula holds. */
    private static final class Judge {
        // Of each token that is not judged yet, the outermost first: it, whether its first part is
        // judged, where that holds, and which worlds were there before it was said.
        private final int[] open = new int[MOST_REDUCED];
        private final boolean[] half = new boolean[MOST_REDUCED];
        private final long[] first = new long[MOST_REDUCED];
        private final long[] before = new long[MOST_REDUCED];
        private int depth;
        private long there;

        long where(Formula formula, Worlds worlds) {
            there = worlds.all();
            depth = 0;
            long value = 0;
            for (int i = 0; i < formula.size; i++) {
                int token = formula.tokens[i];
                if (isLeaf(signOf(token))) {
                    value = finish(leaf(signOf(token), worlds), worlds);
                } else if (depth < open.length) {
                    open[depth] = token;
                    half[depth] = false;
                    depth++;
                }
            }
            return value;
        }

        private long leaf(int sign, Worlds worlds) {
            if (sign == '0') {
                return 0;
            }
            return sign == '1' ? there : there & worlds.atoms[sign - 'a'];
        }

        /** A part is judged: so are all in which it was the last one. */
        private long finish(long part, Worlds worlds) {
            long value = part;
            for (int top = depth - 1; top >= 0; top--) {
                int sign = signOf(open[top]);
                if (hasTwoParts(sign) && !half[top]) {
                    half[top] = true;
                    first[top] = value;
                    before[top] = there;
                    there = isSaying(sign) ? value : there;
                    depth = top + 1;
                    return value;
                }
                if (hasTwoParts(sign)) {
                    there = before[top];
                    value = joined(sign, first[top], value);
                } else {
                    value = single(open[top], value, worlds);
                }
            }
            depth = 0;
            return value;
        }

        private long joined(int sign, long a, long b) {
            switch (sign) {
                case '=': return there & ~(a ^ b);
                case '|': return a | b;
                case '&': case '{': return a & b;
                default: return (there & ~a) | b;
            }
        }

        private long single(int token, long part, Worlds worlds) {
            switch (signOf(token)) {
                case '~': return there & ~part;
                case 'P': return there & ~known(token, there & ~part, worlds);
                case 'C': return common(token, part, worlds);
                case 'D': return pooled(token, part, worlds);
                default: return known(token, part, worlds);
            }
        }

        private long known(int token, long part, Worlds worlds) {
            long doubted = 0;
            for (int agent = 0; agent < AGENTS; agent++) {
                if (hasAgent(token, agent)) {
                    doubted |= worlds.near(agent, there & ~part);
                }
            }
            return there & ~doubted;
        }

        private long common(int token, long part, Worlds worlds) {
            long come = there & ~part;
            for (int round = 0; round < MOST_WORLDS; round++) {
                long more = come;
                for (int agent = 0; agent < AGENTS; agent++) {
                    if (hasAgent(token, agent)) {
                        more |= there & worlds.near(agent, more);
                    }
                }
                if (more == come) {
                    break;
                }
                come = more;
            }
            return there & ~come;
        }

        private long pooled(int token, long part, Worlds worlds) {
            long value = 0;
            for (int w = 0; w < worlds.size; w++) {
                long left = there & ~part;
                for (int agent = 0; agent < AGENTS; agent++) {
                    if (hasAgent(token, agent)) {
                        left &= worlds.cell(agent, w);
                    }
                }
                value |= left == 0 ? 1L << w : 0;
            }
            return there & value;
        }
    }

    /** The events, and the worlds that come of them. */
    private static final class Events {
        private static final int ROWS = ATOMS + 1;
        int size;
        // Of each event: what must hold for it, then what tells each ATOM (empty: as before).
        private final Formula[] rows = new Formula[MOST_EVENTS * ROWS];
        private final int[] cells = new int[AGENTS * MOST_EVENTS];
        private final long[] where = new long[MOST_EVENTS];
        final int[] worldOf = new int[MOST_WORLDS];
        private final int[] eventOf = new int[MOST_WORLDS];

        Events() {
            for (int i = 0; i < rows.length; i++) {
                rows[i] = new Formula(MOST_NODES);
            }
        }

        boolean has(int e) {
            return e >= 0 && e < size;
        }

        int add(Formula must) {
            if (size >= MOST_EVENTS || must.size > MOST_NODES) {
                return BAD;
            }
            int e = size++;
            rows[e * ROWS].copy(must);
            for (int which = 0; which < ATOMS; which++) {
                rows[e * ROWS + 1 + which].size = 0;
            }
            for (int agent = 0; agent < AGENTS; agent++) {
                cells[agent * MOST_EVENTS + e] = 1 << e;
            }
            return e;
        }

        void setChange(int e, int which, Formula to) {
            rows[e * ROWS + 1 + which].copy(to);
        }

        int merge(int agent, int e, int f) {
            int base = agent * MOST_EVENTS;
            int both = cells[base + e] | cells[base + f];
            for (int i = 0; i < size; i++) {
                if ((both >> i & 1) != 0) {
                    cells[base + i] = both;
                }
            }
            return Integer.bitCount(both);
        }

        /** Tells how many pairs there would be, and which ones, as far as there may be so many. */
        int pair(Worlds worlds, Judge judge) {
            for (int e = 0; e < size; e++) {
                where[e] = judge.where(rows[e * ROWS], worlds);
            }
            int pairs = 0;
            for (int w = 0; w < worlds.size; w++) {
                for (int e = 0; e < size; e++) {
                    if ((where[e] >>> w & 1L) != 0) {
                        if (pairs < MOST_WORLDS) {
                            worldOf[pairs] = w;
                            eventOf[pairs] = e;
                        }
                        pairs++;
                    }
                }
            }
            return pairs;
        }

        /** Parts the pairs whose events are told apart: their worlds' cells are there already. */
        void narrowCells(Worlds worlds) {
            for (int agent = 0; agent < AGENTS; agent++) {
                for (int x = 0; x < worlds.size; x++) {
                    int tied = cells[agent * MOST_EVENTS + eventOf[x]];
                    worlds.cells[agent * MOST_WORLDS + x] &= pairsOf(tied, worlds.size);
                }
            }
        }

        private long pairsOf(int these, int pairs) {
            long found = 0;
            for (int x = 0; x < pairs; x++) {
                found |= (long) (these >> eventOf[x] & 1) << x;
            }
            return found;
        }

        void changeAtoms(Worlds worlds, Worlds old, Judge judge) {
            for (int e = 0; e < size; e++) {
                for (int which = 0; which < ATOMS; which++) {
                    Formula tells = rows[e * ROWS + 1 + which];
                    if (tells.size > 0) {
                        changeAtom(worlds, e, which, judge.where(tells, old));
                    }
                }
            }
        }

        private void changeAtom(Worlds worlds, int e, int which, long is) {
            for (int x = 0; x < worlds.size; x++) {
                if (eventOf[x] == e) {
                    worlds.setAtom(x, which, (is >>> worldOf[x] & 1L) != 0);
                }
            }
        }
    }

    /** Which worlds are alike, as far as formulas tell in which K stands so and so deep. */
    private static final class Likeness {
        // The first world that each one is alike with, and as bits those of each agent's cell.
        private final int[] first = new int[MOST_WORLDS];
        final long[] seen = new long[AGENTS * MOST_WORLDS];
        private final int[] finer = new int[MOST_WORLDS];
        private final int[] atoms = new int[MOST_WORLDS];

        int difference(Worlds worlds, int u, int v) {
            start(worlds);
            for (int deep = 0; deep <= MOST_WORLDS; deep++) {
                if (first[u] != first[v]) {
                    return deep;
                }
                if (!refine(worlds)) {
                    return NONE;
                }
            }
            return NONE;
        }

        void settle(Worlds worlds) {
            start(worlds);
            for (int deep = 0; deep <= MOST_WORLDS; deep++) {
                if (!refine(worlds)) {
                    return;
                }
            }
        }

        long firsts(Worlds worlds) {
            long firsts = 0;
            for (int w = 0; w < worlds.size; w++) {
                firsts |= 1L << first[w];
            }
            return firsts;
        }

        private void start(Worlds worlds) {
            for (int w = 0; w < worlds.size; w++) {
                atoms[w] = worlds.atomsOf(w);
                first[w] = w;
                for (int v = 0; v < w; v++) {
                    if (atoms[v] == atoms[w]) {
                        first[w] = v;
                        break;
                    }
                }
            }
        }

        /** Goes one K deeper: whether that tells more worlds apart. */
        private boolean refine(Worlds worlds) {
            look(worlds);
            boolean more = false;
            for (int w = 0; w < worlds.size; w++) {
                finer[w] = w;
                for (int v = first[w]; v < w; v++) {
                    if (first[v] == first[w] && seeSame(v, w)) {
                        finer[w] = v;
                        break;
                    }
                }
                more = more || finer[w] != first[w];
            }
            System.arraycopy(finer, 0, first, 0, MOST_WORLDS);
            return more;
        }

        private void look(Worlds worlds) {
            for (int agent = 0; agent < AGENTS; agent++) {
                for (int w = 0; w < worlds.size; w++) {
                    long cell = worlds.cell(agent, w);
                    int least = lowest(cell);
                    int base = agent * MOST_WORLDS;
                    seen[base + w] = least < w ? seen[base + least] : firstsIn(cell, worlds.size);
                }
            }
        }

        private long firstsIn(long cell, int size) {
            long firsts = 0;
            for (int w = 0; w < size; w++) {
                firsts |= (cell >>> w & 1L) << first[w];
            }
            return firsts;
        }

        private boolean seeSame(int v, int w) {
            for (int agent = 0; agent < AGENTS; agent++) {
                if (seen[agent * MOST_WORLDS + v] != seen[agent * MOST_WORLDS + w]) {
                    return false;
                }
            }
            return true;
        }
    }

    /** Rids formulas of [ ] and { }. */
    private static final class Reducer {
        // What is reduced already stands at the row's end, and the next goes ahead of it: its parts
        // are done first then, as the rules want. Of each part that waits to be joined, its end.
        private final int[] row = new int[MOST_REDUCED];
        private final int[] ends = new int[MOST_NODES];
        private final Formula draft = new Formula(MOST_REDUCED);
        private int from;
        private int held;

        int apply(Formula formula) {
            if (formula.hasAny("ECD")) {
                return BAD;
            }
            if (!formula.hasAny("[{")) {
                return formula.size;
            }
            from = MOST_REDUCED;
            held = 0;
            for (int i = formula.size - 1; i >= 0; i--) {
                if (!place(formula.tokens[i])) {
                    return GREAT;
                }
            }
            formula.size = 0;
            formula.addAll(row, from, MOST_REDUCED);
            return formula.size;
        }

        /** Whether there is room: no rule makes a formula smaller, so one too great stays so. */
        private boolean place(int token) {
            int sign = signOf(token);
            if (isSaying(sign)) {
                return unsay(sign);
            }
            if (from <= 0) {
                return false;
            }
            if (isLeaf(sign) && held < ends.length) {
                ends[held++] = from;
            } else if (isJoin(sign) && held >= 2) {
                held--;
            }
            row[--from] = token;
            return true;
        }

        private boolean unsay(int sign) {
            if (held < 2) {
                return false;
            }
            int middle = ends[held - 1];
            int end = ends[held - 2];
            held--;
            draft.size = 0;
            boolean fits = sign == '[' || draft.add('~') && push('~', middle);
            for (int i = middle; fits && i < end; i++) {
                fits = push(row[i], middle);
            }
            if (!fits || draft.size > end) {
                return false;
            }
            from = end - draft.size;
            System.arraycopy(draft.tokens, 0, row, from, draft.size);
            return true;
        }

        /** Puts into the draft what a token becomes behind [f]; f ends at the middle. */
        private boolean push(int token, int middle) {
            int sign = signOf(token);
            if (isJoin(sign)) {
                return draft.add(token);
            }
            boolean fits = draft.add('>') && draft.addAll(row, from, middle) && draft.add(token);
            if (sign != 'P') {
                return fits;
            }
            return fits && draft.add('&') && draft.addAll(row, from, middle);
        }
    }

    /** What a formula is made of when E and P are taken as K: each once, its parts ahead of it. */
    private static final class Terms {
        static final int MOST_BASE = 13;
        // E, which makes seven terms at most, is in formulas of 150 NODES alone; P makes three, but
        // two of them only as often as the BASE grows by it.
        static final int MOST_TERMS = 2400;
        private static final int TABLE = 4096;
        final int[] token = new int[MOST_TERMS];
        final int[] left = new int[MOST_TERMS];
        final int[] right = new int[MOST_TERMS];
        final int[] baseOf = new int[MOST_TERMS];
        final int[] base = new int[MOST_BASE];
        private final int[] table = new int[TABLE];
        private final int[] waiting = new int[MOST_REDUCED];
        int size;
        int baseSize;
        boolean great;

        /** The formula itself is the term that is answered. */
        int build(Formula formula) {
            size = 0;
            baseSize = 0;
            great = false;
            Arrays.fill(table, 0);
            int held = 0;
            for (int i = formula.size - 1; i >= 0 && !great; i--) {
                int next = formula.tokens[i];
                int sign = signOf(next);
                if (isLeaf(sign) && held < waiting.length) {
                    waiting[held++] = make(next, 0, 0);
                } else if (isJoin(sign) && held >= 2) {
                    held--;
                    waiting[held - 1] = make(next, waiting[held], waiting[held - 1]);
                } else if (held >= 1) {
                    waiting[held - 1] = single(next, waiting[held - 1]);
                }
            }
            return waiting[0];
        }

        private int single(int next, int part) {
            switch (signOf(next)) {
                case 'P': return make('~', everyone(next, make('~', part, 0)), 0);
                case 'C': return common(next, part);
                case '~': return make('~', part, 0);
                default: return everyone(next, part);
            }
        }

        private int everyone(int next, int part) {
            int all = -1;
            for (int agent = 0; agent < AGENTS; agent++) {
                if (hasAgent(next, agent)) {
                    int known = make(withAgents('K', 1 << agent), part, 0);
                    all = all < 0 ? known : make('&', all, known);
                }
            }
            return Math.max(all, 0);
        }

        private int common(int next, int part) {
            int common = make(next, part, 0);
            for (int agent = 0; agent < AGENTS; agent++) {
                if (hasAgent(next, agent)) {
                    make(withAgents('K', 1 << agent), common, 0);
                }
            }
            return common;
        }

        /** The term that is so made, which may be there already. */
        private int make(int next, int a, int b) {
            int spot = ((next * 31 + a) * 1009 + b * 17) & (TABLE - 1);
            for (int probe = 0; probe < TABLE && table[spot] != 0; probe++) {
                int known = table[spot] - 1;
                if (token[known] == next && left[known] == a && right[known] == b) {
                    return known;
                }
                spot = (spot + 1) & (TABLE - 1);
            }
            boolean inBase = isBase(signOf(next));
            if (great || size >= MOST_TERMS || inBase && baseSize >= MOST_BASE) {
                great = true;
                return 0;
            }
            table[spot] = size + 1;
            token[size] = next;
            left[size] = a;
            right[size] = b;
            baseOf[size] = -1;
            if (inBase) {
                baseOf[size] = baseSize;
                base[baseSize++] = size;
            }
            return size++;
        }

        private static boolean isBase(int sign) {
            return sign == 'K' || sign == 'C' || sign >= 'a' && sign <= 'h';
        }
    }

    /**
     * Whether a formula can hold. A TYPE is a number whose bits tell of the BASE, and a set of types
     * is a row of bits, one for each number: so all types are gone through 64 at a time.
     */
    private static final class Decider {
        private static final int WORD = 6;
        private static final int MOST_WORDS = 1 << (Terms.MOST_BASE - WORD);
        // Of the numbers 0 .. 63, those in which bit 0, 1 .. 5 is set.
        private static final long[] SET = {
            0xAAAAAAAAAAAAAAAAL, 0xCCCCCCCCCCCCCCCCL, 0xF0F0F0F0F0F0F0F0L,
            0xFF00FF00FF00FF00L, 0xFFFF0000FFFF0000L, 0xFFFFFFFF00000000L,
        };
        final int[] answers = new int[DECISIONS];
        private final Terms terms = new Terms();
        private final long[] value = new long[Terms.MOST_TERMS];
        // Of each K and C of the BASE, the types by which what stands behind it holds.
        private final long[] parts = new long[Terms.MOST_BASE * MOST_WORDS];
        private final long[] wholes = new long[MOST_WORDS];
        private final long[] types = new long[MOST_WORDS];
        private final long[] found = new long[MOST_WORDS];
        private final long[] come = new long[MOST_WORDS];
        private final int[] knownBits = new int[AGENTS];
        private int words;

        void work(Formula formula) {
            if (formula.hasAny("D[{")) {
                Arrays.fill(answers, BAD);
                return;
            }
            int whole = terms.build(formula);
            if (terms.great) {
                Arrays.fill(answers, GREAT);
                return;
            }
            findKnownBits();
            makeTypes(whole);
            answers[2] = terms.baseSize;
            answers[3] = sizeOf(false);
            sift();
            answers[4] = sizeOf(false);
            answers[5] = sizeOf(true);
            answers[0] = answers[5] > 0 ? 1 : 0;
            answers[1] = answers[5] == answers[4] ? 1 : 0;
        }

        private int sizeOf(boolean byWhichItHolds) {
            int size = 0;
            for (int word = 0; word < words; word++) {
                size += Long.bitCount(types[word] & (byWhichItHolds ? wholes[word] : -1L));
            }
            return size;
        }

        private int tokenAt(int j) {
            return terms.token[terms.base[j]];
        }

        private long telling(int j, int word) {
            if (j < WORD) {
                return SET[j];
            }
            return (word >> (j - WORD) & 1) != 0 ? -1L : 0;
        }

        private void findKnownBits() {
            for (int agent = 0; agent < AGENTS; agent++) {
                knownBits[agent] = 0;
                for (int j = 0; j < terms.baseSize; j++) {
                    if (tokenAt(j) == withAgents('K', 1 << agent)) {
                        knownBits[agent] |= 1 << j;
                    }
                }
            }
        }

        private void makeTypes(int whole) {
            int bits = terms.baseSize;
            words = bits > WORD ? 1 << (bits - WORD) : 1;
            long all = bits >= WORD ? -1L : (1L << (1 << bits)) - 1;
            for (int word = 0; word < words; word++) {
                for (int term = 0; term < terms.size; term++) {
                    value[term] = valueOf(term, word);
                }
                wholes[word] = value[whole];
                types[word] = all;
                for (int j = 0; j < bits; j++) {
                    parts[j * MOST_WORDS + word] = value[terms.left[terms.base[j]]];
                    types[word] &= ~telling(j, word) | lawful(j, word);
                }
            }
        }

        private long valueOf(int term, int word) {
            if (terms.baseOf[term] >= 0) {
                return telling(terms.baseOf[term], word);
            }
            long a = value[terms.left[term]];
            long b = value[terms.right[term]];
            switch (signOf(terms.token[term])) {
                case '1': return -1L;
                case '~': return ~a;
                case '&': return a & b;
                case '|': return a | b;
                case '>': return ~a | b;
                case '=': return ~(a ^ b);
                default: return 0;
            }
        }

        /** The types that may tell that one of the BASE holds, by what else they tell. */
        private long lawful(int j, int word) {
            int sign = signOf(tokenAt(j));
            if (sign != 'K' && sign != 'C') {
                return -1L;
            }
            long lawful = parts[j * MOST_WORDS + word];
            for (int i = 0; i < terms.baseSize && sign == 'C'; i++) {
                if (isKnownCommon(i, j)) {
                    lawful &= telling(i, word);
                }
            }
            return lawful;
        }

        private boolean isKnownCommon(int known, int common) {
            return signOf(tokenAt(known)) == 'K'
                && terms.left[terms.base[known]] == terms.base[common]
                && (agentsOf(tokenAt(known)) & agentsOf(tokenAt(common))) != 0;
        }

        private void sift() {
            boolean gone = true;
            for (int round = 0; round <= 1 << Terms.MOST_BASE && gone; round++) {
                gone = false;
                for (int j = 0; j < terms.baseSize; j++) {
                    int sign = signOf(tokenAt(j));
                    if (sign == 'K' || sign == 'C') {
                        startDoubt(j);
                        spread(j);
                        gone |= drop(j);
                    }
                }
            }
        }

        /** Comes first to the types by which what stands behind a K or C does not hold. */
        private void startDoubt(int j) {
            for (int word = 0; word < words; word++) {
                come[word] = types[word] & ~parts[j * MOST_WORDS + word];
            }
        }

        /** Goes on from those: once, if it is a K, till no more are come to, if it is a C. */
        private void spread(int j) {
            boolean again = true;
            for (int round = 0; round <= 1 << Terms.MOST_BASE && again; round++) {
                again = false;
                for (int agent = 0; agent < AGENTS; agent++) {
                    if (hasAgent(tokenAt(j), agent)) {
                        again |= spreadBy(knownBits[agent]);
                    }
                }
                again = again && signOf(tokenAt(j)) == 'C';
            }
        }

        private boolean spreadBy(int same) {
            System.arraycopy(come, 0, found, 0, words);
            for (int j = 0; j < terms.baseSize; j++) {
                if ((same >> j & 1) == 0) {
                    leaveOpen(j);
                }
            }
            boolean more = false;
            for (int word = 0; word < words; word++) {
                long next = come[word] | (found[word] & types[word]);
                more = more || next != come[word];
                come[word] = next;
            }
            return more;
        }

        /** Finds what differs from something found at one place of the BASE alone, too. */
        private void leaveOpen(int j) {
            if (j < WORD) {
                int shift = 1 << j;
                for (int word = 0; word < words; word++) {
                    long x = found[word];
                    found[word] = x | ((x & SET[j]) >>> shift) | ((x << shift) & SET[j]);
                }
                return;
            }
            int step = 1 << (j - WORD);
            for (int word = 0; word + step < words; word++) {
                if ((word & step) == 0) {
                    long both = found[word] | found[word + step];
                    found[word] = both;
                    found[word + step] = both;
                }
            }
        }

        /** Types go in which a K or C does not hold without a doubt that was come to. */
        private boolean drop(int j) {
            boolean gone = false;
            for (int word = 0; word < words; word++) {
                long stay = types[word] & (telling(j, word) | come[word]);
                gone = gone || stay != types[word];
                types[word] = stay;
            }
            return gone;
        }
    }
}
