/** Counts the answers that are not as due, and ends the test with exit code 1 if there was one. */
final class Check {
    private static final int MOST_SHOWN = 20;

    private int wrong = 0;
    private int asked = 0;
    private String sentence = "";

    /** The sentence of the document that the next answers are about: told with each wrong one. */
    void sentence(String text) {
        sentence = "[" + text + "] ";
    }

    void due(String call, long got, long want) {
        asked++;
        if (got != want) {
            wrong++;
            if (wrong <= MOST_SHOWN) {
                System.out.println(sentence + call + " answered " + got + ", due is " + want);
            }
        }
    }

    void due(String what, String got, String want) {
        asked++;
        if (!got.equals(want)) {
            wrong++;
            System.out.println(sentence + what + " is\n" + got + "\ndue is\n" + want);
        }
    }

    boolean isWrong() {
        return wrong > 0;
    }

    void end(String test) {
        System.out.println(test + ": " + asked + " answers, " + wrong + " not as due");
        if (wrong > 0) {
            System.exit(1);
        }
    }

    static FretHands withStrings(int... pitches) {
        FretHands x = new FretHands();
        for (int pitch : pitches) {
            x.string(pitch);
        }
        return x;
    }

    static FretHands guitar() {
        return withStrings(40, 45, 50, 55, 59, 64);
    }

    /** An event of these pitches: its number. */
    static int chord(FretHands x, int... pitches) {
        int number = x.event(pitches[0]);
        for (int i = 1; i < pitches.length; i++) {
            x.pitch(pitches[i]);
        }
        return number;
    }

    static void events(FretHands x, int count, int pitch) {
        for (int i = 0; i < count; i++) {
            x.event(pitch);
        }
    }

    static void type(FretHands x, String text) {
        for (int i = 0; i < text.length(); i++) {
            x.sign(text.charAt(i));
        }
    }

    /** What read() answers for a tape with these signs alone. */
    static int read(FretHands x, String text) {
        x.empty();
        type(x, text);
        return x.read();
    }

    static String tape(FretHands x) {
        StringBuilder text = new StringBuilder();
        for (int i = 0; i < x.told(4); i++) {
            text.append((char) x.tape(i));
        }
        return text.toString();
    }
}
