/** Counts answers that are not as due, and prints them. */
final class Due {
    private final String name;
    private String sentence = "";
    private int asked = 0;
    private int askedHere = 0;
    private int wrong = 0;

    Due(String name) {
        this.name = name;
    }

    /** From here on answers are held against this sentence of the document; a sentence without an answer is a fault. */
    void sentence(String quote) {
        endSentence();
        sentence = "'" + quote + "': ";
        askedHere = 0;
    }

    /** From here on answers are held against no sentence. */
    void noSentence() {
        endSentence();
        sentence = "";
    }

    private void endSentence() {
        if (!sentence.isEmpty() && askedHere == 0) {
            wrong++;
            System.out.println(name + ": " + sentence + "nothing was asked");
        }
    }

    void is(String what, long got, long want) {
        asked++;
        askedHere++;
        if (got != want) {
            wrong++;
            System.out.println(name + ": " + sentence + what + " answered " + got + ", due is " + want);
        }
    }

    void that(String what, boolean holds) {
        is(what, holds ? 1 : 0, 1);
    }

    void same(String what, String got, String want) {
        int at = 0;
        while (at < got.length() && at < want.length() && got.charAt(at) == want.charAt(at)) {
            at++;
        }
        that(what + ": from letter " + at + " on '" + some(got, at) + "', due is '" + some(want, at) + "'", got.equals(want));
    }

    private static String some(String text, int from) {
        return text.substring(from, Math.min(text.length(), from + 80));
    }

    boolean failed() {
        return wrong != 0;
    }

    void end() {
        endSentence();
        System.out.println(name + ": " + asked + " answers, " + wrong + " not as due");
        if (wrong != 0 || asked == 0) {
            System.exit(1);
        }
    }
}
