/**
 * All that an object can be asked about its state, as one text. The object is worn out then, as
 * everything that can be undone is undone, and its tape is read.
 */
final class Picture {
    private final Script script;
    private final StringBuilder text = new StringBuilder();
    private final int nodes;
    private final int links;
    private final int formats;

    private Picture(Script script) {
        this.script = script;
        nodes = number("nodes");
        links = number("links");
        formats = number("formats");
    }

    static String of(Script script, boolean withTape) {
        Picture picture = new Picture(script);
        picture.ask("layers", "total 2", "total 5");
        picture.askState();
        // ten operations can be undone; one more shows that it is none
        for (int i = 0; i <= 10 && picture.number("undo") >= 0; i++) {
            picture.askState();
        }
        if (withTape) {
            picture.ask("errorPosition", "tapeLength", "load", "errorPosition", "nodes");
        }
        return picture.text.toString();
    }

    private String ask(String... calls) {
        String answer = "";
        for (String call : calls) {
            answer = script.answer(call);
            text.append(call).append(": ").append(answer).append("; ");
        }
        return answer;
    }

    private int number(String call) {
        return Integer.parseInt(ask(call));
    }

    /** What operations change. A receiver that has left has no wanted level. */
    private void askState() {
        int receivers = number("receivers");
        for (int r = 0; r < receivers; r++) {
            ask("level " + r, "wanted " + r);
        }
        for (int link = 0; link < links; link++) {
            ask("capacity " + link, "isOpen " + link);
        }
        for (int node = 0; node < nodes; node++) {
            ask("parent " + node);
            for (int format = 1; format < formats; format++) {
                ask("isPlaced " + node + " " + format);
            }
        }
    }
}
