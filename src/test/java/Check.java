/** What the project's tests share: it tells every answer that is not the one that is due. */
final class Check {
    private static final int MOST_TOLD = 50;
    private static int wrong = 0;
    private static int all = 0;
    private static String sentence = "";
    private static int allBefore = 0;

    private Check() {
    }

    /**
     * What is looked at from here on is what this sentence of the document says: of a promise, or of
     * the terms (0). SentencesTest looks that the words are the document's own.
     */
    static void sentence(int promise, String words) {
        closeSentence();
        sentence = (promise == 0 ? "terms" : "promise " + promise) + ", \"" + words + "\": ";
        allBefore = all;
    }

    private static void closeSentence() {
        if (!sentence.isEmpty() && all == allBefore) {
            wrong++;
            System.out.println(sentence + "nothing was looked at");
        }
    }

    static void due(String what, long want, long got) {
        due(what, Long.toString(want), Long.toString(got));
    }

    static void due(String what, String want, String got) {
        all++;
        if (!want.equals(got)) {
            wrong++;
            if (wrong <= MOST_TOLD) {
                System.out.println(sentence + what + " answered " + got + ", due is " + want);
            }
        }
    }

    static void end() {
        closeSentence();
        System.out.println(all + " answers, " + wrong + " of them wrong");
        if (wrong != 0 || all == 0) {
            System.exit(1);
        }
    }
}
