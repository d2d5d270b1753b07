/** Promises 14 to 20: say, event, tieEvents, change, noEvents, happen, back. */
public final class HappeningTest {
    private static final int BAD = KnowledgeRoom.BAD;
    private static final int GREAT = KnowledgeRoom.GREAT;

    // It has 1,515 NODES when it is reduced.
    private static final String GREAT_ONE = "[a&b]K1[b|c]K2[c&a]K3[K1a]K2[P1b]K1a";

    private HappeningTest() {
    }

    private static KnowledgeRoom roomOf(int... atoms) {
        KnowledgeRoom room = new KnowledgeRoom();
        for (int one : atoms) {
            room.world(one);
        }
        return room;
    }

    private static void worldsAre(String when, KnowledgeRoom room, int what, int... due) {
        Check.due(when + ": worlds", due.length, room.count(0));
        for (int w = 0; w < due.length; w++) {
            Check.due(when + ": told(" + w + ", " + what + ")", due[w], room.told(w, what));
        }
    }

    private static void say() {
        KnowledgeRoom room = roomOf(0, 1, 2, 3, 1);
        room.tie(1, 0, 2);
        room.tie(1, 2, 3);
        room.tie(1, 3, 1);
        room.tie(2, 4, 1);
        Check.put(room, "a");
        Check.due("say a", 3, room.say());
        worldsAre("behind a", room, 0, 1, 3, 1);
        worldsAre("1 behind a", room, 1, 0, 0, 2);
        worldsAre("2 behind a", room, 2, 0, 1, 0);
        Check.due("say a again", 3, room.say());
        Check.due("no world went, so there is one step", 1, room.count(4));
        Check.put(room, "K1b");
        Check.due("say what holds nowhere", 0, room.say());
        worldsAre("behind K1b", room, 0, 1, 3, 1);
        Check.due("that is no step", 1, room.count(4));
        Check.put(room, "P1b&~K1b");
        Check.due("what was not known before, and is not now", 2, room.say());
        worldsAre("behind it", room, 0, 1, 3);
        Check.due("the formula stays", 6, room.count(2));
        Check.due("back", 3, room.back());
        Check.due("back", 5, room.back());
        worldsAre("back again", room, 1, 0, 0, 0, 0, 4);
        Check.due("no more", BAD, room.back());
        KnowledgeRoom full = new KnowledgeRoom();
        for (int w = 0; w < 64; w++) {
            full.world(w & 1);
            full.tie(4, 0, w);
        }
        Check.put(full, "1");
        Check.due("say 1", 64, full.say());
        Check.put(full, "~a");
        Check.due("say ~a", 32, full.say());
        Check.due("all are in one cell", 0, full.told(31, 4));
    }

    private static void event() {
        KnowledgeRoom room = roomOf(0, 1);
        Check.put(room, "a");
        for (int e = 0; e < 8; e++) {
            Check.due("event " + e, e, room.event());
        }
        Check.due("event 8", BAD, room.event());
        Check.due("events", 8, room.count(1));
        Check.put(room, "~a");
        Check.due("each has its own formula", 8, room.happen());
        worldsAre("each is alone", room, 3, 0, 1, 2, 3, 4, 5, 6, 7);
        worldsAre("none changes", room, 0, 1, 1, 1, 1, 1, 1, 1, 1);
        KnowledgeRoom great = roomOf(0);
        Check.put(great, GREAT_ONE);
        Check.due("it is great", 1515, great.reduce());
        Check.due("event of it", BAD, great.event());
        Check.put(great, "~" + Check.repeat("a|", 74) + "a");
        Check.due("event of 150 NODES", 0, great.event());
        Check.due("change by 150 NODES", 0, great.change(0, 7));
        Check.due("it happens", 1, great.happen());
        Check.due("by what held before", 128, great.told(0, 0));
        Check.put(great, GREAT_ONE);
        great.reduce();
        Check.due("change by it", BAD, great.change(0, 0));
    }

    private static void tieEvents() {
        KnowledgeRoom room = roomOf(0);
        for (int e = 0; e < 8; e++) {
            room.event();
        }
        Check.due("tieEvents 1 0 7", 2, room.tieEvents(1, 0, 7));
        Check.due("tieEvents 1 7 0", 2, room.tieEvents(1, 7, 0));
        Check.due("tieEvents 1 3 4", 2, room.tieEvents(1, 3, 4));
        Check.due("tieEvents 1 4 7", 4, room.tieEvents(1, 4, 7));
        Check.due("tieEvents 1 1 1", 1, room.tieEvents(1, 1, 1));
        Check.due("tieEvents 4 5 6", 2, room.tieEvents(4, 5, 6));
        Check.due("tieEvents 0", BAD, room.tieEvents(0, 0, 1));
        Check.due("tieEvents 5", BAD, room.tieEvents(5, 0, 1));
        Check.due("tieEvents 1 8 0", BAD, room.tieEvents(1, 8, 0));
        Check.due("tieEvents 1 0 8", BAD, room.tieEvents(1, 0, 8));
        Check.due("tieEvents 1 -1 0", BAD, room.tieEvents(1, -1, 0));
        Check.due("happen", 8, room.happen());
        worldsAre("1", room, 1, 0, 1, 2, 0, 0, 5, 6, 0);
        worldsAre("4", room, 4, 0, 1, 2, 3, 4, 5, 5, 7);
        room.noEvents();
        room.event();
        Check.due("none such any more", BAD, room.tieEvents(1, 0, 1));
        room.event();
        Check.due("new ones are alone", 1, room.tieEvents(1, 0, 0));
    }

    private static void change() {
        KnowledgeRoom room = roomOf(0, 1, 2, 3);
        room.event();
        room.event();
        Check.put(room, "b");
        Check.due("change 0 0", 0, room.change(0, 0));
        Check.put(room, "a");
        Check.due("change 0 1", 0, room.change(0, 1));
        Check.put(room, "~a&~b");
        Check.due("change 1 7", 0, room.change(1, 7));
        Check.put(room, "0");
        Check.due("change 2 0", BAD, room.change(2, 0));
        Check.due("change -1 0", BAD, room.change(-1, 0));
        Check.due("change 0 8", BAD, room.change(0, 8));
        Check.due("change 0 -1", BAD, room.change(0, -1));
        Check.due("happen", 8, room.happen());
        worldsAre("a and b are exchanged at once", room, 0, 0, 128, 2, 1, 1, 2, 3, 3);
        Check.due("back", 4, room.back());
        Check.put(room, "1");
        Check.due("change 0 0 again", 0, room.change(0, 0));
        Check.due("happen", 8, room.happen());
        worldsAre("a always now", room, 0, 1, 128, 3, 1, 1, 2, 3, 3);
        room.back();
        room.noEvents();
        room.event();
        Check.due("happen", 4, room.happen());
        worldsAre("a new event changes nothing", room, 0, 0, 1, 2, 3);
    }

    private static void noEvents() {
        KnowledgeRoom room = roomOf(0);
        Check.due("none", 0, room.noEvents());
        room.event();
        room.event();
        Check.due("two", 2, room.noEvents());
        Check.due("none any more", 0, room.count(1));
        Check.due("none again", 0, room.noEvents());
        Check.due("nothing happens", 0, room.happen());
        Check.due("the world is there", 1, room.count(0));
    }

    private static void happen() {
        KnowledgeRoom room = roomOf(1, 0, 1);
        room.tie(1, 0, 1);
        room.tie(1, 1, 2);
        room.tie(2, 0, 2);
        Check.put(room, "a");
        room.event();
        Check.put(room, "~a|K2a");
        room.event();
        room.tieEvents(2, 0, 1);
        Check.due("happen", 5, room.happen());
        worldsAre("by world, then by event", room, 0, 1, 1, 0, 1, 1);
        worldsAre("1 tells the events apart", room, 1, 0, 1, 1, 0, 1);
        worldsAre("2 does not", room, 2, 0, 0, 2, 0, 0);
        worldsAre("3 tells all apart", room, 3, 0, 1, 2, 3, 4);
        Check.due("the events stay", 2, room.count(1));
        Check.due("one step", 1, room.count(4));
        room.noEvents();
        Check.put(room, "a&~a");
        room.event();
        Check.due("none would be", 0, room.happen());
        Check.due("nothing changes", 5, room.count(0));
        Check.due("one step still", 1, room.count(4));
        Check.due("back", 3, room.back());
        room.noEvents();
        Check.put(room, "1");
        room.event();
        Check.due("nothing is otherwise", 3, room.happen());
        Check.due("a step all the same", 1, room.count(4));
        KnowledgeRoom full = new KnowledgeRoom();
        for (int w = 0; w < 32; w++) {
            full.world(w);
        }
        full.event();
        full.event();
        Check.due("64", 64, full.happen());
        Check.due("more than 64", GREAT, full.happen());
        Check.due("64 still", 64, full.count(0));
        Check.due("one step", 1, full.count(4));
        full.back();
        full.world(1);
        Check.due("66", GREAT, full.happen());
    }

    private static void back() {
        KnowledgeRoom room = roomOf(0);
        Check.due("nothing to undo", BAD, room.back());
        room.event();
        for (int i = 1; i <= 12; i++) {
            room.happen();
            Check.due("steps", i, room.count(4));
        }
        room.event();
        room.happen();
        Check.due("at most 12 are kept", 12, room.count(4));
        Check.due("two worlds", 2, room.count(0));
        for (int i = 11; i >= 0; i--) {
            Check.due("back", 1, room.back());
            Check.due("steps", i, room.count(4));
        }
        Check.due("the first one is forgotten", BAD, room.back());
        forgets();
        goesBackTo();
    }

    private static KnowledgeRoom stepped() {
        KnowledgeRoom room = roomOf(0, 1, 3);
        Check.put(room, "a");
        room.say();
        Check.due("a step", 1, room.count(4));
        return room;
    }

    private static void forgets() {
        KnowledgeRoom room = stepped();
        room.world(256);
        room.tie(1, 0, 2);
        room.tie(0, 0, 0);
        room.alone(1, 2);
        room.atom(0, 8, true);
        Check.due("refused ones forget nothing", 1, room.count(4));
        room.told(0, 0);
        room.noEvents();
        room.event();
        room.contract();
        Check.due("others do not either", 1, room.count(4));
        room.world(0);
        Check.due("world forgets", BAD, room.back());
        room = stepped();
        room.tie(1, 0, 0);
        Check.due("tie forgets, though nothing is otherwise", BAD, room.back());
        room = stepped();
        room.alone(1, 0);
        Check.due("alone forgets, though nothing is otherwise", BAD, room.back());
        room = stepped();
        room.atom(0, 0, true);
        Check.due("atom forgets, though nothing is otherwise", BAD, room.back());
        Check.due("no steps", 0, room.count(4));
    }

    private static void goesBackTo() {
        KnowledgeRoom room = roomOf(0, 0, 1, 1);
        room.tie(1, 0, 2);
        room.tie(1, 1, 3);
        Check.due("contract", 2, room.contract());
        Check.put(room, "a");
        Check.due("say", 1, room.say());
        room.event();
        Check.due("happen", 1, room.happen());
        Check.due("steps", 3, room.count(4));
        Check.due("back of happen", 1, room.back());
        Check.due("back of say", 2, room.back());
        Check.due("where a holds now", 1, room.worlds());
        Check.due("back of contract", 4, room.back());
        Check.due("where a holds now", 2, room.worlds());
        worldsAre("1", room, 1, 0, 1, 0, 1);
        Check.due("the event stays", 1, room.count(1));
    }

    public static void main(String[] args) {
        say();
        event();
        tieEvents();
        change();
        noEvents();
        happen();
        back();
        Check.end();
    }
}
