/** What the tests share: counting wrong answers, and feeding texts to the tape. */
final class Checks {
    private final String name;
    private int asked;
    private int wrong;

    Checks(String name) {
        this.name = name;
    }

    void due(String call, long got, long want) {
        asked++;
        if (got != want) {
            wrong++;
            System.out.println(name + ": " + call + " answered " + got + ", due is " + want);
        }
    }

    void due(String call, boolean got, boolean want) {
        due(call, got ? 1 : 0, want ? 1 : 0);
    }

    void due(String call, String got, String want) {
        asked++;
        if (!got.equals(want)) {
            wrong++;
            System.out.println(name + ": " + call + " answered <" + got + ">, due is <" + want + ">");
        }
    }

    int asked() {
        return asked;
    }

    void end() {
        System.out.println(name + ": " + asked + " checks, " + wrong + " wrong");
        if (asked == 0 || wrong != 0) {
            System.exit(1);
        }
    }

    private static int word(String text, int at) {
        int word = 0;
        for (int i = at; i < at + 4; i++) {
            word = word << 8 | (i < text.length() ? text.charAt(i) : ' ');
        }
        return word;
    }

    /** The arguments of append() for twenty bytes of the text, with spaces behind its end. */
    static int[] words(String text, int at) {
        int[] words = new int[5];
        for (int i = 0; i < 5; i++) {
            words[i] = word(text, at + 4 * i);
        }
        return words;
    }

    static void feed(LayeredMulticast x, String text) {
        int at = 0;
        for (; at < text.length(); at += 20) {
            int[] w = words(text, at);
            x.append(w[0], w[1], w[2], w[3], w[4]);
        }
        x.truncate(at - text.length());
    }

    static int load(LayeredMulticast x, String text) {
        feed(x, text);
        return x.load();
    }

    static LayeredMulticast loaded(String text) {
        LayeredMulticast x = new LayeredMulticast();
        if (load(x, text) < 0) {
            throw new IllegalArgumentException("refused at " + x.errorPosition() + ": " + text);
        }
        return x;
    }

    static String report(LayeredMulticast x) {
        StringBuilder text = new StringBuilder();
        for (int i = 0; i < x.reportLength(); i++) {
            text.append((char) x.reportByte(i));
        }
        return text.toString();
    }

    /** The levels of all receivers, a digit each. */
    static String levels(LayeredMulticast x) {
        StringBuilder text = new StringBuilder();
        for (int i = 0; i < x.receivers(); i++) {
            text.append(x.level(i));
        }
        return text.toString();
    }
}
