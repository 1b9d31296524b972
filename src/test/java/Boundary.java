import java.io.IOException;
import java.util.Arrays;

/** Tests that cite the sentences of the document for which they stand. */
final class Boundary {
    /** What an object answers to more calls than these is free. */
    static final int MOST_CALLS = 512;

    private final Checks checks;
    private final Document document = new Document();
    private String label = "no sentence";
    private int askedBefore = -1;

    Boundary(Checks checks) throws IOException {
        this.checks = checks;
    }

    /** The tests that follow stand for these sentences; a beginning is marked by " .." at its end. */
    void says(String place, String... sentences) {
        endSentence();
        for (String words : sentences) {
            checks.due(place + " of the document says: " + words, document.cite(place, words) != null, true);
        }
        label = place + ", \"" + sentences[0] + "\"";
        askedBefore = checks.asked();
    }

    private void endSentence() {
        checks.due("a test for " + label, checks.asked() > askedBefore, true);
    }

    /** Every sentence that names a boundary must have been cited. */
    void end() {
        endSentence();
        for (String sentence : document.uncited()) {
            checks.due("a test for " + sentence, false, true);
        }
    }

    Document document() {
        return document;
    }

    void due(String call, long got, long want) {
        checks.due(label + ": " + call, got, want);
    }

    // ---- runs of calls

    /** The lines on a new object with this setup; with none, on a new object as it is. */
    void run(String setup, String... lines) {
        runAfter(setup, new String[0], lines);
    }

    void runAfter(String setup, String[] before, String... lines) {
        Script script = begin(setup, before);
        script.check(checks, label, lines);
        end(script);
    }

    /** Each of the lines, alone, answers as due, and everything is then as it would be without it. */
    void kept(String setup, String[] before, String... lines) {
        String untouched = picture(setup, before, null, true);
        for (String line : lines) {
            checks.due(label + ": what is there after " + line, picture(setup, before, line, true), untouched);
        }
    }

    /** The same for calls that change the tape and the error position, but nothing else. */
    void keptButTape(String setup, String[] before, String... lines) {
        String untouched = picture(setup, before, null, false);
        for (String line : lines) {
            checks.due(label + ": what is there after " + line, picture(setup, before, line, false), untouched);
        }
    }

    /** The operation answers as due, and undo() brings back everything, what can be undone included. */
    void undone(String setup, String[] before, String line) {
        String untouched = picture(setup, before, null, true);
        String[] more = Arrays.copyOf(before, before.length + 1);
        more[before.length] = line;
        Script script = begin(setup, more);
        checks.due(label + ": undo of " + line, Integer.parseInt(script.answer("undo")) >= 0, true);
        checks.due(label + ": what is there after " + line + " and undo", Picture.of(script, true), untouched);
        end(script);
    }

    private String picture(String setup, String[] before, String line, boolean withTape) {
        Script script = begin(setup, before);
        if (line != null) {
            script.check(checks, label, line);
        }
        String picture = Picture.of(script, withTape);
        end(script);
        return picture;
    }

    private Script begin(String setup, String... before) {
        Script script = new Script(new LayeredMulticast());
        if (!setup.isEmpty()) {
            script.feed(setup);
            checks.due(label + ": the setup is good", Integer.parseInt(script.answer("load")) > 0, true);
        }
        script.check(checks, label, before);
        return script;
    }

    private void end(Script script) {
        checks.due(label + ": at most 512 calls, not " + script.calls, script.calls <= MOST_CALLS, true);
    }

    // ---- setup texts

    void good(String text) {
        LayeredMulticast x = new LayeredMulticast();
        int nodes = Checks.load(x, text);
        due("load of " + text, nodes > 0 ? 1 : nodes, 1);
        due("nodes after " + text, x.nodes(), nodes);
        due("errorPosition for " + text, x.errorPosition(), -2);
    }

    /** The text has the sign @ in front of the token that cannot stand. */
    void bad(String marked) {
        int position = marked.indexOf('@');
        badAt(position, marked.substring(0, position) + marked.substring(position + 1));
    }

    void badAt(int position, String text) {
        LayeredMulticast x = new LayeredMulticast();
        due("load of " + text, Checks.load(x, text), -1);
        due("errorPosition for " + text, x.errorPosition(), position);
        due("tapeLength after " + text, x.tapeLength(), 0);
    }

    /** The text has the sign @# in place of an INT that may have the values from least to greatest. */
    void edges(String text, int least, int greatest) {
        for (int value : new int[] {least, least + 1, greatest - 1, greatest}) {
            if (value >= least && value <= greatest) {
                good(text.replace("@#", Integer.toString(value)));
            }
        }
        bad(text.replace("#", Integer.toString(greatest + 1)));
        bad(text.replace("#", "9999".equals(Integer.toString(greatest)) ? "99999" : "9999"));
        if (least > 0) {
            bad(text.replace("#", Integer.toString(least - 1)));
            bad(text.replace("#", "0000"));
        }
        bad(text.replace("#", "-1"));
    }
}
