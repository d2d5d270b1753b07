/**
 * Any calls with any numbers, far more than an object is used for: none throws, all end, and each
 * answers something that its promise names (LANGUAGE.md, rule 7).
 */
public final class AnyCallsTest {
    private static final int OBJECTS = 60;
    private static final int CALLS = 4000;
    private static final int BAD = KnowledgeRoom.BAD;
    private static final int NONE = KnowledgeRoom.NONE;
    private static final int GREAT = KnowledgeRoom.GREAT;
    private static final int[] EDGES = {Integer.MIN_VALUE, Integer.MIN_VALUE + 1, -256, -65, -64, -9, -2, -1, 0, 1, 2, 3, 4, 5,
        6, 7, 8, 9, 31, 32, 63, 64, 65, 126, 127, 199, 200, 255, 256, 3999, 4000, 20000, 65536, Integer.MAX_VALUE};
    private static final String[] TEXTS = {"a", "~b", "1", "0", "a|b", "K1a", "P2~a", "C12(a>b)", "[a]K1b", "{a|b}P2c", "D12a",
        "E1234E1234E1234a", "K1".repeat(13) + "a", "~" + "a&".repeat(74) + "a", "a&".repeat(75) + "a", "(".repeat(16), "~".repeat(31),
        "[".repeat(15) + "a" + "]~b".repeat(15), "[~(" + "a|".repeat(18) + "a)](" + "b&".repeat(40) + "~".repeat(8) + "b)",
        "{a=b}".repeat(10) + "P1~c" + "|a".repeat(40), "C1234a&C1234b&c", "[a&b]K1[b|c]K2[c&a]K3[K1a]K2[P1b]K1a"};
    private final KnowledgeRoom room = new KnowledgeRoom();
    private long seed;

    private AnyCallsTest(long seed) {
        this.seed = seed;
    }

    /** A number below the bound; the same ones in every run. */
    private int any(int bound) {
        seed = seed * 6364136223846793005L + 1442695040888963407L;
        return (int) ((seed >>> 33) % bound);
    }

    private int number() {
        return any(3) == 0 ? EDGES[any(EDGES.length)] : any(8) == 0 ? any(1 << 16) << 16 | any(1 << 16) : any(9);
    }

    private static void between(String call, int answer, int least, int most, int... others) {
        boolean named = answer >= least && answer <= most;
        for (int other : others) {
            named = named || answer == other;
        }
        Check.due(call + " answers what is named (" + answer + ")", 1, named ? 1 : 0);
    }

    private void put(String text) {
        for (char c : text.toCharArray()) {
            room.type(c);
        }
        formula();
    }

    private void formula() {
        int answer = room.formula();
        between("formula", answer, -210, 150);
        between("formula, a number between those of faults and NODES:", answer > -10 ? answer : 1, 1, 150);
    }

    private void ofWorlds() {
        switch (any(8)) {
            case 0: case 1: between("world", room.world(number()), 0, 63, BAD); break;
            case 2: case 3: between("tie", room.tie(number(), number(), number()), 1, 64, BAD); break;
            case 4: between("alone", room.alone(number(), number()), 0, 63, BAD); break;
            case 5: between("atom", room.atom(number(), number(), any(2) == 0), 0, 1, BAD); break;
            default: between("told", room.told(number(), number()), 0, 255, BAD);
        }
    }

    private void ofFormulas() {
        switch (any(9)) {
            case 0: between("type", room.type(number()), 1, 200, BAD); break;
            case 1: between("four", room.four(number()), 0, 200, BAD); break;
            case 2: formula(); break;
            case 3: between("holds", room.holds(number()), 0, 1, BAD); break;
            case 4: between("worlds", room.worlds(), 0, 64); break;
            case 5: between("tell", room.tell(), 1, 20000); break;
            case 6: between("letter", room.letter(number()), 33, 126, NONE); break;
            default: put(TEXTS[any(TEXTS.length)]);
        }
    }

    private void ofHappening() {
        switch (any(8)) {
            case 0: between("say", room.say(), 0, 64); break;
            case 1: between("event", room.event(), 0, 7, BAD); break;
            case 2: between("tieEvents", room.tieEvents(number(), number(), number()), 1, 8, BAD); break;
            case 3: between("change", room.change(number(), number()), 0, 0, BAD); break;
            case 4: between("noEvents", any(6) == 0 ? room.noEvents() : 0, 0, 8); break;
            case 5: between("back", room.back(), 0, 64, BAD); break;
            default: between("happen", room.happen(), 0, 64, GREAT);
        }
    }

    private void ofOthers() {
        switch (any(5)) {
            case 0: between("contract", room.contract(), 0, 64); break;
            case 1: between("differ", room.differ(number(), number()), 0, 62, NONE, BAD); break;
            case 2: between("reduce", room.reduce(), 1, 2000, BAD, GREAT); break;
            case 3: between("decide", room.decide(number()), 0, 8192, BAD, GREAT); break;
            default: between("count", room.count(number()), 0, 2000, BAD);
        }
    }

    private void play() {
        for (int i = 0; i < CALLS; i++) {
            switch (any(4)) {
                case 0: ofWorlds(); break;
                case 1: ofFormulas(); break;
                case 2: ofHappening(); break;
                default: ofOthers();
            }
        }
    }

    public static void main(String[] args) {
        for (int i = 0; i < OBJECTS; i++) {
            new AnyCallsTest(i).play();
        }
        Check.end();
    }
}
