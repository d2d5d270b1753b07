/** Promises 21 and 22: contract, differ. */
public final class AlikeTest {
    private static final int BAD = KnowledgeRoom.BAD;
    private static final int NONE = KnowledgeRoom.NONE;

    private AlikeTest() {
    }

    /** Worlds in a row, of which 1 and 2 in turn can't tell the neighbours; the last one is a. */
    private static KnowledgeRoom row(int size) {
        KnowledgeRoom room = new KnowledgeRoom();
        for (int w = 0; w < size; w++) {
            room.world(w == size - 1 ? 1 : 0);
            if (w > 0) {
                room.tie(1 + w % 2, w - 1, w);
            }
        }
        return room;
    }

    private static void differ() {
        KnowledgeRoom room = row(64);
        Check.due("0 and 63", 0, room.differ(0, 63));
        Check.due("62 and 61", 1, room.differ(62, 61));
        Check.due("62 and 0", 1, room.differ(62, 0));
        Check.due("0 and 1", 62, room.differ(0, 1));
        Check.due("1 and 0", 62, room.differ(1, 0));
        Check.due("30 and 31", 32, room.differ(30, 31));
        Check.due("30 and 30", NONE, room.differ(30, 30));
        Check.due("all differ", 64, room.contract());
        Check.due("-1 and 0", BAD, room.differ(-1, 0));
        Check.due("0 and 64", BAD, room.differ(0, 64));
        KnowledgeRoom none = new KnowledgeRoom();
        Check.due("no worlds", BAD, none.differ(0, 0));
        none.world(5);
        none.world(5);
        Check.due("two alike", NONE, none.differ(0, 1));
        none.tie(4, 0, 1);
        Check.due("two alike in a cell", NONE, none.differ(0, 1));
    }

    /** D tells 0 from the others, no other formula does: so they are alike. */
    private static void withoutD() {
        KnowledgeRoom room = new KnowledgeRoom();
        room.world(0);
        room.world(1);
        room.tie(1, 0, 1);
        room.tie(2, 0, 1);
        int[] atoms = {0, 1, 0, 1};
        for (int one : atoms) {
            room.world(one);
        }
        room.tie(1, 2, 3);
        room.tie(1, 4, 5);
        room.tie(2, 3, 4);
        room.tie(2, 5, 2);
        Check.put(room, "D12~a");
        Check.due("D tells them apart", 0, room.holds(0));
        Check.due("D tells them apart", 1, room.holds(2));
        Check.due("0 and 2 are alike", NONE, room.differ(0, 2));
        Check.due("1 and 5 are alike", NONE, room.differ(1, 5));
        Check.due("contract", 2, room.contract());
        Check.due("one cell of 1", 0, room.told(1, 1));
        Check.due("one cell of 2", 0, room.told(1, 2));
        Check.due("a cell each of 3", 1, room.told(1, 3));
        Check.due("back", 6, room.back());
    }

    private static void contract() {
        KnowledgeRoom room = new KnowledgeRoom();
        int[] atoms = {1, 0, 1, 0, 2};
        for (int one : atoms) {
            room.world(one);
        }
        room.tie(1, 0, 3);
        room.tie(1, 2, 1);
        room.tie(2, 1, 4);
        Check.due("1 and 3 differ", 1, room.differ(1, 3));
        Check.due("0 and 2 differ", 2, room.differ(0, 2));
        Check.due("none goes", 5, room.contract());
        Check.due("that is no step", 0, room.count(4));
        room.alone(2, 4);
        Check.due("1 and 3 are alike now", NONE, room.differ(1, 3));
        Check.due("two go", 3, room.contract());
        Check.due("a step", 1, room.count(4));
        int[] left = {1, 0, 2};
        int[] cells = {0, 0, 2};
        for (int w = 0; w < 3; w++) {
            Check.due("atoms of " + w, left[w], room.told(w, 0));
            // 0 and 1 were not in one cell themselves, but some that are alike with them.
            Check.due("1's cell of " + w, cells[w], room.told(w, 1));
            Check.due("2's cell of " + w, w, room.told(w, 2));
        }
        Check.due("again", 3, room.contract());
        Check.due("back", 5, room.back());
        Check.due("no worlds", 0, new KnowledgeRoom().contract());
        KnowledgeRoom full = new KnowledgeRoom();
        for (int w = 0; w < 64; w++) {
            full.world(7);
            full.tie(1 + w % 4, w, w / 2);
        }
        Check.due("all are alike", 1, full.contract());
        Check.due("it is left", 7, full.told(0, 0));
    }

    public static void main(String[] args) {
        differ();
        withoutD();
        contract();
        Check.end();
    }
}
