/** Counts the answers that are not as due, and prints each of them. */
final class Check {
    private static int wrong = 0;
    private static int asked = 0;
    private static String sentence = "";
    private static int askedForSentence = 0;

    private Check() {
    }

    /** What follows, up to the next sentence, is the test of these words of the document. */
    static void sentence(String words) {
        closeSentence();
        sentence = words;
        askedForSentence = 0;
    }

    static void due(String what, long got, long want) {
        asked++;
        askedForSentence++;
        if (got != want) {
            wrong++;
            String words = sentence.isEmpty() ? "" : "\"" + sentence + "\": ";
            System.out.println(words + what + " answered " + got + ", due is " + want);
        }
    }

    static void end() {
        closeSentence();
        System.out.println(asked + " answers looked at, " + wrong + " not as due");
        if (wrong != 0 || asked == 0) {
            System.exit(1);
        }
    }

    private static void closeSentence() {
        if (!sentence.isEmpty() && askedForSentence == 0) {
            wrong++;
            System.out.println("\"" + sentence + "\": no answer was looked at");
        }
    }
}
