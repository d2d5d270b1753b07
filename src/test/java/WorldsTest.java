/** Promises 1 to 6: a new object, world, tie, alone, atom, told. */
public final class WorldsTest {
    private static final int BAD = KnowledgeRoom.BAD;

    private WorldsTest() {
    }

    private static KnowledgeRoom roomOf(int worlds) {
        KnowledgeRoom room = new KnowledgeRoom();
        for (int w = 0; w < worlds; w++) {
            room.world(w & 255);
        }
        return room;
    }

    private static void newObject() {
        KnowledgeRoom room = new KnowledgeRoom();
        Check.due("BAD", -1, KnowledgeRoom.BAD);
        Check.due("NONE", -2, KnowledgeRoom.NONE);
        Check.due("GREAT", -3, KnowledgeRoom.GREAT);
        Check.due("new: worlds", 0, room.count(0));
        Check.due("new: events", 0, room.count(1));
        Check.due("new: nodes", 1, room.count(2));
        Check.due("new: signs", 0, room.count(3));
        Check.due("new: steps", 0, room.count(4));
        Check.due("new: deep", 0, room.count(5));
        Check.due("new: letter", KnowledgeRoom.NONE, room.letter(0));
        Check.due("new: back", BAD, room.back());
        Check.due("new: worlds()", 0, room.worlds());
        Check.due("new: holds(0)", BAD, room.holds(0));
        Check.due("new: say", 0, room.say());
        Check.due("new: happen", 0, room.happen());
        Check.due("new: contract", 0, room.contract());
        Check.due("new: formula", "1", Check.told(room));
    }

    private static void world() {
        KnowledgeRoom room = new KnowledgeRoom();
        Check.due("world(256)", BAD, room.world(256));
        Check.due("world(-1)", BAD, room.world(-1));
        Check.due("world(MIN)", BAD, room.world(Integer.MIN_VALUE));
        Check.due("world(1 << 30)", BAD, room.world(1 << 30));
        for (int w = 0; w < 64; w++) {
            Check.due("world " + w, w, room.world(255 - w));
            Check.due("its atoms", 255 - w, room.told(w, 0));
            for (int agent = 1; agent <= 4; agent++) {
                Check.due("its cell", w, room.told(w, agent));
            }
        }
        Check.due("world 64", BAD, room.world(0));
        Check.due("there are", 64, room.count(0));
    }

    private static void tie() {
        KnowledgeRoom room = roomOf(6);
        Check.due("tie 1 4 2", 2, room.tie(1, 4, 2));
        Check.due("tie 1 2 4", 2, room.tie(1, 2, 4));
        Check.due("tie 1 5 3", 2, room.tie(1, 5, 3));
        Check.due("tie 1 3 4", 4, room.tie(1, 3, 4));
        Check.due("tie 1 0 0", 1, room.tie(1, 0, 0));
        Check.due("tie 1 5 5", 4, room.tie(1, 5, 5));
        Check.due("tie 4 0 5", 2, room.tie(4, 0, 5));
        for (int w = 0; w < 6; w++) {
            Check.due("1's least of " + w, w < 2 ? w : 2, room.told(w, 1));
            Check.due("2's least of " + w, w, room.told(w, 2));
            Check.due("4's least of " + w, w == 5 ? 0 : w, room.told(w, 4));
        }
        Check.due("tie 0 0 1", BAD, room.tie(0, 0, 1));
        Check.due("tie 5 0 1", BAD, room.tie(5, 0, 1));
        Check.due("tie 1 -1 1", BAD, room.tie(1, -1, 1));
        Check.due("tie 1 0 6", BAD, room.tie(1, 0, 6));
        Check.due("tie 1 6 0", BAD, room.tie(1, 6, 0));
        Check.due("nothing is changed by those", 0, room.told(0, 1));
        KnowledgeRoom full = roomOf(64);
        for (int w = 1; w < 64; w++) {
            Check.due("tie all", w + 1, full.tie(3, w, w - 1));
        }
        Check.due("63 is with 0", 0, full.told(63, 3));
    }

    private static void alone() {
        KnowledgeRoom room = roomOf(5);
        room.tie(2, 0, 1);
        room.tie(2, 1, 3);
        room.tie(3, 0, 1);
        Check.due("alone 2 0", 2, room.alone(2, 0));
        Check.due("0 is alone", 0, room.told(0, 2));
        Check.due("the others stay together", 1, room.told(3, 2));
        Check.due("3's cell stays", 0, room.told(1, 3));
        Check.due("alone 2 0 again", 0, room.alone(2, 0));
        Check.due("alone 2 4", 0, room.alone(2, 4));
        Check.due("tie behind it", 3, room.tie(2, 0, 3));
        Check.due("alone 0", BAD, room.alone(0, 0));
        Check.due("alone 5", BAD, room.alone(5, 0));
        Check.due("alone 1 5", BAD, room.alone(1, 5));
        Check.due("alone 1 -1", BAD, room.alone(1, -1));
        KnowledgeRoom full = roomOf(64);
        full.tie(1, 63, 0);
        Check.due("alone 1 63", 1, full.alone(1, 63));
        Check.due("63 is alone", 63, full.told(63, 1));
    }

    private static void atom() {
        KnowledgeRoom room = roomOf(64);
        Check.due("atom 5 0 false", 1, room.atom(5, 0, false));
        Check.due("atom 5 0 false again", 0, room.atom(5, 0, false));
        Check.due("atom 5 7 true", 0, room.atom(5, 7, true));
        Check.due("atom 5 7 true again", 1, room.atom(5, 7, true));
        Check.due("what 5 has", 4 + 128, room.told(5, 0));
        Check.due("what 4 has", 4, room.told(4, 0));
        Check.due("atom 63 6 true", 0, room.atom(63, 6, true));
        Check.due("what 63 has", 127, room.told(63, 0));
        Check.due("atom 0 -1", BAD, room.atom(0, -1, true));
        Check.due("atom 0 8", BAD, room.atom(0, 8, true));
        Check.due("atom -1 0", BAD, room.atom(-1, 0, true));
        Check.due("atom 64 0", BAD, room.atom(64, 0, true));
        Check.put(room, "h");
        Check.due("where h holds", 1, room.worlds());
        Check.due("h in 5", 1, room.holds(5));
    }

    private static void told() {
        KnowledgeRoom room = roomOf(2);
        Check.due("told 0 -1", BAD, room.told(0, -1));
        Check.due("told 0 5", BAD, room.told(0, 5));
        Check.due("told -1 0", BAD, room.told(-1, 0));
        Check.due("told 2 0", BAD, room.told(2, 0));
        Check.due("told 2 1", BAD, room.told(2, 1));
        room.tie(4, 1, 0);
        Check.due("told 1 4", 0, room.told(1, 4));
        Check.due("told 1 3", 1, room.told(1, 3));
        Check.due("told 1 0", 1, room.told(1, 0));
    }

    public static void main(String[] args) {
        newObject();
        world();
        tie();
        alone();
        atom();
        told();
        Check.end();
    }
}
