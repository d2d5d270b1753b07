/** What the project's tests share: it tells every answer that is not the one that is due. */
final class Check {
    private static int wrong = 0;
    private static int all = 0;

    private Check() {
    }

    static void due(String what, long want, long got) {
        all++;
        if (want != got) {
            wrong++;
            if (wrong <= 50) {
                System.out.println(what + " answered " + got + ", due is " + want);
            }
        }
    }

    static void due(String what, String want, String got) {
        all++;
        if (!want.equals(got)) {
            wrong++;
            if (wrong <= 50) {
                System.out.println(what + " answered " + got + ", due is " + want);
            }
        }
    }

    static void end() {
        System.out.println(all + " answers, " + wrong + " of them wrong");
        if (wrong != 0 || all == 0) {
            System.exit(1);
        }
    }

    /** Has a text collected and made the formula at hand: what formula() answers. */
    static int put(KnowledgeRoom room, String text) {
        for (int i = 0; i < text.length(); i++) {
            room.type(text.charAt(i));
        }
        return room.formula();
    }

    /** The formula at hand, as tell() and letter() tell it. */
    static String told(KnowledgeRoom room) {
        int size = room.tell();
        StringBuilder text = new StringBuilder();
        for (int i = 0; i < size; i++) {
            text.append((char) room.letter(i));
        }
        due("letter behind the end", KnowledgeRoom.NONE, room.letter(size));
        due("letter before the start", KnowledgeRoom.NONE, room.letter(-1));
        return text.toString();
    }

    static String repeat(String part, int times) {
        return part.repeat(times);
    }
}
