/** What the edge tests share: the sentence of the document that is tested, and the answers that are due by it. */
final class Edges {
    static final int NONE = -1, BAD = -2, NO = -3, FULL = -4;
    static final int MIN = Integer.MIN_VALUE, MAX = Integer.MAX_VALUE;

    private static String sentence = "";
    private static int sentences;
    private static int answersToIt;
    private static int answers;
    private static int wrong;

    private Edges() {
    }

    /** Begins the test of a sentence, which is given as the document has it. */
    static void says(String words) {
        endSentence();
        sentence = words;
        sentences++;
    }

    static void due(String call, long got, long want) {
        answers++;
        answersToIt++;
        if (got != want) {
            complain(call + " answered " + got + ", due is " + want);
        }
    }

    static void complain(String what) {
        wrong++;
        System.out.println(what + "   [" + sentence + "]");
    }

    private static void endSentence() {
        if (sentences > 0 && answersToIt == 0) {
            complain("nothing is tested");
        }
        answersToIt = 0;
    }

    /** To be called at the end of a test. */
    static void finish() {
        endSentence();
        System.out.println(sentences + " sentences, " + answers + " answers, " + wrong + " not as due");
        if (wrong != 0 || sentences == 0) {
            System.exit(1);
        }
    }

    static String times(String part, int n) {
        StringBuilder s = new StringBuilder();
        for (int i = 0; i < n; i++) {
            s.append(part);
        }
        return s.toString();
    }
}
