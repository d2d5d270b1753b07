import java.util.ArrayDeque;
import java.util.Deque;
import java.util.regex.Matcher;
import java.util.regex.Pattern;

/** A run of calls on a new object, of no more than the document lets it have. */
final class Run {
    static final int MOST_CALLS = 512;
    private static final int SHOWN = 12;
    private static final Pattern CALL = Pattern.compile("(\\w+)\\(([^)]*)\\)(?: (\\S+))?");

    private final KnowledgeRoom room = new KnowledgeRoom();
    private final Deque<String> last = new ArrayDeque<>();
    private int calls = 0;

    Run(String... scripts) {
        for (String script : scripts) {
            does(script);
        }
    }

    /** Calls, parted by ';', each with the answer that is due, if it is looked at: "back() BAD". */
    Run does(String script) {
        for (String part : script.split(";")) {
            if (!part.isBlank()) {
                doesOne(part.trim());
            }
        }
        return this;
    }

    private void doesOne(String part) {
        Matcher matcher = CALL.matcher(part);
        if (!matcher.matches()) {
            throw new IllegalArgumentException("no call: " + part);
        }
        String call = matcher.group(1) + "(" + matcher.group(2) + ")";
        int answer = ask(matcher.group(1), numbers(matcher.group(2)));
        if (matcher.group(3) != null) {
            look(call, number(matcher.group(3)), answer);
        }
        remember(call + " " + answer);
    }

    private void look(String call, int want, int answer) {
        Check.due(String.join("; ", last) + "; " + call, want, answer);
    }

    private void remember(String call) {
        last.addLast(call);
        if (last.size() > SHOWN) {
            last.removeFirst();
        }
    }

    private static int[] numbers(String list) {
        if (list.isBlank()) {
            return new int[0];
        }
        String[] parts = list.split(",");
        int[] numbers = new int[parts.length];
        for (int i = 0; i < parts.length; i++) {
            numbers[i] = number(parts[i].trim());
        }
        return numbers;
    }

    private static int number(String text) {
        switch (text) {
            case "BAD": return KnowledgeRoom.BAD;
            case "NONE": return KnowledgeRoom.NONE;
            case "GREAT": return KnowledgeRoom.GREAT;
            case "MIN": return Integer.MIN_VALUE;
            case "MAX": return Integer.MAX_VALUE;
            case "true": return 1;
            case "false": return 0;
            default: return text.charAt(0) == '\'' ? text.charAt(1) : Integer.parseInt(text);
        }
    }

    int ask(String name, int... a) {
        calls++;
        if (calls > MOST_CALLS) {
            throw new IllegalStateException("more calls than an object is used for");
        }
        switch (name) {
            case "world": return room.world(a[0]);
            case "tie": return room.tie(a[0], a[1], a[2]);
            case "alone": return room.alone(a[0], a[1]);
            case "atom": return room.atom(a[0], a[1], a[2] != 0);
            case "told": return room.told(a[0], a[1]);
            case "type": return room.type(a[0]);
            case "four": return room.four(a[0]);
            case "formula": return room.formula();
            case "holds": return room.holds(a[0]);
            case "worlds": return room.worlds();
            case "tell": return room.tell();
            case "letter": return room.letter(a[0]);
            default: return askMore(name, a);
        }
    }

    private int askMore(String name, int... a) {
        switch (name) {
            case "say": return room.say();
            case "event": return room.event();
            case "tieEvents": return room.tieEvents(a[0], a[1], a[2]);
            case "change": return room.change(a[0], a[1]);
            case "noEvents": return room.noEvents();
            case "happen": return room.happen();
            case "back": return room.back();
            case "contract": return room.contract();
            case "differ": return room.differ(a[0], a[1]);
            case "reduce": return room.reduce();
            case "decide": return room.decide(a[0]);
            case "count": return room.count(a[0]);
            default: throw new IllegalArgumentException("no such call: " + name);
        }
    }

    int calls() {
        return calls;
    }

    /** Has a text collected, four signs a call, without making a formula of it. */
    Run collect(String text) {
        for (int i = 0; i < text.length(); i += 4) {
            ask("four", four(text.substring(i, Math.min(i + 4, text.length()))));
        }
        remember("collected " + text);
        return this;
    }

    /** The number that has four signs or fewer as its bytes, the first one highest. */
    static int four(String signs) {
        int number = 0;
        for (int i = 0; i < signs.length(); i++) {
            number = number << 8 | signs.charAt(i) & 255;
        }
        return number;
    }

    /** Has a text collected and made the formula at hand. */
    Run put(String text) {
        collect(text);
        remember("formula() " + ask("formula"));
        return this;
    }

    /** The same, and looks at what formula() answers. */
    Run put(String text, int due) {
        collect(text);
        int answer = ask("formula");
        look("formula()", due, answer);
        remember("formula() " + answer);
        return this;
    }

    /** Looks that a text is no formula, its first sign that can't come being at a place. */
    Run fault(String text, int place) {
        return put(text, -10 - place);
    }

    /** Looks at what tell() and letter() tell of the formula at hand. */
    Run tells(String due) {
        look("tell()", due.length(), ask("tell"));
        StringBuilder text = new StringBuilder();
        for (int i = 0; i < due.length(); i++) {
            text.append((char) ask("letter", i));
        }
        Check.due(String.join("; ", last) + "; the text", due, text.toString());
        look("letter(" + due.length() + ")", KnowledgeRoom.NONE, ask("letter", due.length()));
        return this;
    }

    /** Looks in which worlds a formula holds: a 1 or a 0 for each of them. */
    Run where(String formula, String due) {
        put(formula);
        StringBuilder found = new StringBuilder();
        int many = 0;
        for (int w = 0; w < due.length(); w++) {
            found.append(ask("holds", w));
            many += due.charAt(w) - '0';
        }
        Check.due(formula + " in the worlds", due, found.toString());
        look("worlds()", many, ask("worlds"));
        return this;
    }

    /** Looks what told(w, what) answers of all worlds, and that there are no more of them. */
    Run all(int what, int... due) {
        look("count(0)", due.length, ask("count", 0));
        for (int w = 0; w < due.length; w++) {
            look("told(" + w + ", " + what + ")", due[w], ask("told", w, what));
        }
        return this;
    }

    /** Does these calls, and looks that the worlds, the formula and all counts stay as they were. */
    Run changesNothing(String script) {
        String before = state();
        does(script);
        Check.due("what is there behind " + script, before, state());
        return this;
    }

    private String state() {
        StringBuilder state = new StringBuilder();
        for (int what = 0; what <= 5; what++) {
            state.append(ask("count", what)).append(what < 5 ? ' ' : ':');
        }
        for (int w = ask("count", 0) - 1; w >= 0; w--) {
            for (int what = 0; what <= 4; what++) {
                state.append(' ').append(ask("told", w, what));
            }
            state.append('/').append(ask("holds", w));
        }
        return state.toString();
    }
}
