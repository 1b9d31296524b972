/** Sections 1 and 6 and promises 1 to 9 and 52 at their boundaries: the tape and the setup text. */
final class TextBoundaries {
    private static final String SMALL = "nodes 2;native 1;";
    /** A text of all clauses, with single spaces between its tokens. */
    private static final String[] TOKENS = ("nodes 3 ; link 0 1 capacity 5 delay 2 ; link 1 2 capacity 6 delay 3 ; cpu 1 7 ; cpu 0 8 ; "
            + "native 1 2 ; format 3 rates 4 5 ; format 6 rates 7 8 ;").split(" ");
    /** How many tokens of it are a whole setup: with no format clause, with one, with both. */
    private static final String WHOLE = " 31 37 43 ";
    private final Boundary b;

    TextBoundaries(Boundary b) {
        this.b = b;
    }

    void test() {
        network();
        stream();
        tokens();
        words();
        numbers();
        grammar();
        clauses();
        rates();
        errorPositions();
        tokensThatCannotStand();
        newObject();
        append();
        truncate();
        load();
        errorPosition();
        counts();
    }

    // ---- section 1

    private void network() {
        b.says("Section 1", "There are nodes 0 to N - 1 (N is 2 to 16);");
        b.edges("nodes @#;native 1;", 2, 16);
        b.good("nodes 2;link 1 0 capacity 1 delay 1;cpu 1 1;native 1;");
        b.bad("nodes 2;link @2 0 capacity 1 delay 1;native 1;");
        b.bad("nodes 2;link 0 @2 capacity 1 delay 1;native 1;");
        b.bad("nodes 2;cpu @2 1;native 1;");
        b.good("nodes 16;link 15 0 capacity 1 delay 1;link 1 15 capacity 1 delay 1;cpu 15 1;native 1;");
        b.bad("nodes 16;link @16 0 capacity 1 delay 1;native 1;");
        b.bad("nodes 16;link 0 @16 capacity 1 delay 1;native 1;");
        b.bad("nodes 16;link 15 @16 capacity 1 delay 1;native 1;");
        b.bad("nodes 16;cpu @16 1;native 1;");
        b.run(SMALL, "nodes = 2", "isInTree 0 = true", "parent 1 = NOT_FOUND", "parent 2 = INVALID", "parent -1 = INVALID");
        b.run("nodes 16;native 1;", "nodes = 16", "isInTree 0 = true", "parent 15 = NOT_FOUND", "parent 16 = INVALID", "parent -1 = INVALID");

        b.says("Section 1", "node 0 is the source.");
        b.run("nodes 2;link 1 0 capacity 1 delay 1;native 1;", "isInTree 0 = true", "isInTree 1 = false", "addReceiver 0 0 1 = 0", "level 0 = 1",
                "parent 0 = NOT_FOUND", "delay 0 = 0", "total 3 = 1", "addReceiver 1 0 1 = 1", "parent 1 = 0");

        b.says("Section 1", "Links are numbered from 0 in the order of the setup text;");
        b.run(Networks.links(32) + "native 1;", "linkBetween 0 1 = 0", "linkBetween 1 0 = 0", "linkBetween 0 15 = 14", "linkBetween 1 2 = 15",
                "linkBetween 1 15 = 28", "linkBetween 2 5 = 31", "linkBetween 5 2 = 31", "linkBetween 2 6 = NOT_FOUND", "capacity 0 = 0",
                "capacity 31 = 31", "capacity 32 = INVALID", "capacity -1 = INVALID");
        b.run("nodes 3;link 2 1 capacity 7 delay 1;link 0 1 capacity 8 delay 1;native 1;", "linkBetween 1 2 = 0", "linkBetween 0 1 = 1",
                "capacity 0 = 7", "capacity 1 = 8");

        b.says("Section 1", "a link connects two different nodes, at most one link connects the same two nodes, and there are at most 32 links.");
        b.bad("nodes 3;link 0 @0 capacity 1 delay 1;native 1;");
        b.bad("nodes 3;link 2 @2 capacity 1 delay 1;native 1;");
        b.bad("nodes 3;link 0 1 capacity 1 delay 1;link 0 @1 capacity 1 delay 1;native 1;");
        b.bad("nodes 3;link 0 1 capacity 1 delay 1;link 1 @0 capacity 1 delay 1;native 1;");
        b.bad("nodes 3;link 1 2 capacity 1 delay 1;link 0 1 capacity 1 delay 1;link 2 @1 capacity 1 delay 1;native 1;");
        b.good("nodes 3;link 0 1 capacity 1 delay 1;link 0 2 capacity 1 delay 1;link 1 2 capacity 1 delay 1;native 1;");
        b.good(Networks.links(31) + "native 1;");
        b.good(Networks.links(32) + "native 1;");
        b.bad(Networks.links(32) + "@link 2 6 capacity 1 delay 1;native 1;");
        b.run(SMALL, "links = 0");
        b.run(Networks.links(32) + "native 1;", "links = 32");

        b.says("Section 1", "A link has a capacity (0 to 9999) and a delay (1 to 99).");
        b.edges("nodes 2;link 0 1 capacity @# delay 1;native 1;", 0, 9999);
        b.edges("nodes 2;link 0 1 capacity 1 delay @#;native 1;", 1, 99);
        b.run("nodes 3;link 0 1 capacity 0 delay 1;link 0 2 capacity 9999 delay 99;native 1;", "capacity 0 = 0", "capacity 1 = 9999",
                "addReceiver 1 0 1 = 0", "addReceiver 2 0 1 = 1", "levels = 01", "delay 2 = 99", "setCapacity 0 1 = 0", "raise 0 = 1", "delay 1 = 1");

        b.says("Section 1", "It is open or closed;");
        b.run("nodes 2;link 0 1 capacity 1 delay 1;native 1;", "isOpen 0 = true", "setOpen 0 false = 0", "isOpen 0 = false", "setOpen 0 true = 0",
                "isOpen 0 = true");

        b.says("Section 1", "initially all links are open.");
        String[] open = new String[34];
        for (int link = 0; link < 32; link++) {
            open[link] = "isOpen " + link + " = true";
        }
        open[32] = "isOpen 32 = false";
        open[33] = "isOpen -1 = false";
        b.run(Networks.links(32) + "native 1;", open);
        b.run("nodes 2;link 0 1 capacity 1 delay 1;native 1;", "setOpen 0 false = 0",
                "read nodes 2;link 0 1 capacity 1 delay 1;native 1; = 2", "isOpen 0 = true");

        b.says("Section 1", "Each node has a processor capacity (0 to 999).");
        b.edges("nodes 2;cpu 1 @#;native 1;", 0, 999);
        String costs = "native 1 1 1 1 1;format 99 rates 1 1 1 1 1;format 99 rates 1 1 1 1 1;format ";
        String rest = " rates 1 1 1 1 1;";
        String wide = "nodes 2;link 0 1 capacity 9999 delay 1;cpu 0 999;" + costs;
        b.run(wide + 9 + rest, "place 0 1 = true", "place 0 2 = true", "place 0 3 = true", "addReceiver 1 1 5 = 0", "addReceiver 1 2 5 = 1",
                "cpuLoad 0 = 990", "addReceiver 1 3 5 = 2", "levels = 551", "cpuLoad 0 = 999");
        b.run(wide + 10 + rest, "place 0 1 = true", "place 0 2 = true", "place 0 3 = true", "addReceiver 1 1 5 = 0", "addReceiver 1 2 5 = 1",
                "addReceiver 1 3 5 = 2", "levels = 550", "cpuLoad 0 = 990");
        b.run("nodes 2;cpu 0 0;native 1;format 1 rates 1;", "place 0 1 = true", "addReceiver 0 1 1 = 0", "level 0 = 0");
    }

    private void stream() {
        b.says("Section 1", "There are formats 0 to F - 1 (F is 1 to 4);");
        String three = "format 1 rates 1;format 1 rates 1;format 1 rates 1;";
        b.run(SMALL, "formats = 1", "rate 0 1 = 1", "rate 1 1 = INVALID", "rate -1 1 = INVALID");
        b.run(SMALL + three, "formats = 4", "rate 3 1 = 1", "rate 4 1 = INVALID", "rate -1 1 = INVALID");
        b.bad(SMALL + three + "@format 1 rates 1;");

        b.says("Section 1", "format 0 is the native one.");
        b.run("nodes 2;native 3;format 1 rates 2;", "rate 0 1 = 3", "rate 1 1 = 2", "addReceiver 0 0 1 = 0", "addReceiver 0 1 1 = 1", "levels = 10");

        b.says("Section 1", "The stream has L layers (1 to 5).");
        b.bad("nodes 2;native @;");
        b.run("nodes 2;native 7;", "layers = 1", "rate 0 1 = 7", "rate 0 2 = INVALID", "addReceiver 0 0 1 = 0", "addReceiver 0 0 2 = INVALID");
        b.run("nodes 2;native 7 7 7 7;", "layers = 4", "rate 0 4 = 28", "rate 0 5 = INVALID");
        b.run("nodes 2;native 7 7 7 7 7;", "layers = 5", "rate 0 5 = 35", "rate 0 6 = INVALID", "addReceiver 0 0 5 = 0", "level 0 = 5",
                "addReceiver 0 0 6 = INVALID");
        b.bad("nodes 2;native 7 7 7 7 7 @7;");

        b.says("Section 1", "Each layer has a rate in each format.");
        b.run("nodes 2;native 1 2 3 4 5;format 1 rates 10 20 30 40 50;format 1 rates 6 5 4 3 2;format 1 rates 9 9 9 9 9;",
                "rate 0 1 = 1", "rate 0 2 = 3", "rate 0 5 = 15", "rate 1 1 = 10", "rate 1 5 = 150", "rate 2 1 = 6", "rate 2 2 = 11", "rate 2 5 = 20",
                "rate 3 1 = 9", "rate 3 5 = 45");

        b.says("Section 1", "A level k (0 to L) means the first k layers;");
        b.run("nodes 2;link 0 1 capacity 15 delay 1;native 1 2 3 4 5;", "addReceiver 1 0 5 = 0", "level 0 = 5", "linkLoad 0 = 15",
                "setCapacity 0 14 = 1", "level 0 = 4", "linkLoad 0 = 10", "setCapacity 0 1 = 3", "level 0 = 1", "linkLoad 0 = 1",
                "setCapacity 0 0 = 1", "level 0 = 0", "linkLoad 0 = 0");

        b.says("Section 1", "rate(f, k) is the sum of the rates of the first k layers in format f.");
        b.run("nodes 2;native 999 999 999 999 999;format 1 rates 1 1 1 1 1;", "rate 0 1 = 999", "rate 0 5 = 4995", "rate 1 1 = 1", "rate 1 5 = 5");

        b.says("Section 1", "Each format except format 0 has a conversion cost.");
        b.edges("nodes 2;native 1;format @# rates 1;", 1, 99);
        b.run("nodes 2;cpu 0 999;native 1 1 1 1 1;format 1 rates 1 1 1 1 1;format 99 rates 1 1 1 1 1;", "place 0 0 = false", "place 0 1 = true",
                "addReceiver 0 0 5 = 0", "cpuLoad 0 = 0", "addReceiver 0 1 1 = 1", "cpuLoad 0 = 1", "addReceiver 0 1 5 = 2", "cpuLoad 0 = 5",
                "place 0 2 = true", "addReceiver 0 2 5 = 3", "cpuLoad 0 = 500");
    }

    // ---- section 6

    private static boolean isSpace(int c) {
        return c == 32 || c == 10;
    }

    private static boolean isDigit(int c) {
        return c >= 48 && c <= 57;
    }

    private void goodOrBadAt(boolean good, int position, String text) {
        if (good) {
            b.good(text);
        } else {
            b.badAt(position, text);
        }
    }

    private void tokens() {
        b.says("Section 6", "Tokens are formed greedily.");
        b.good("nodes2;link0 1capacity5delay6;cpu0 1;native1 2;format3rates4 5;");
        b.run("nodes 2;native 12;", "layers = 1", "rate 0 1 = 12");
        b.run("nodes 2;native 1 2;", "layers = 2", "rate 0 1 = 1", "rate 0 2 = 3");
        b.bad("nodes 2;@linkcapacity 0 1 capacity 1 delay 1;native 1;");
        b.bad("nodes 3;link @12 capacity 1 delay 1;native 1;");
        b.bad("@nodesnodes 2;native 1;");

        b.says("Section 6", "White space (bytes 32 and 10) may stand between any two tokens.");
        b.good(String.join(" ", TOKENS));
        b.good(String.join("\n", TOKENS));
        b.good(String.join(" \n\n ", TOKENS));
        b.good("\n " + String.join(" ", TOKENS) + " \n");
        b.bad("@no des 2;native 1;");
        b.bad("nodes @1 6;native 1;");
        for (int c = 0; c < 256; c++) {
            char sign = (char) c;
            // a digit makes another number of the 2 before it, and the semicolon ends the clause
            goodOrBadAt(isSpace(c), isDigit(c) ? 6 : c == ';' ? 8 : 7, "nodes 2" + sign + ";native 1;");
        }

        b.says("Section 6", "The only other token is the semicolon.");
        for (int c = 0; c < 256; c++) {
            char sign = (char) c;
            goodOrBadAt(isSpace(c), 0, sign + SMALL);
            goodOrBadAt(isSpace(c), 17, SMALL + sign);
            // here a digit makes a rate of three digits, and white space a second layer
            goodOrBadAt(isSpace(c) || isDigit(c), c == ';' ? 17 : 16, "nodes 2;native 1" + sign + "1;");
            goodOrBadAt(c == ';', isDigit(c) ? 6 : isSpace(c) ? 8 : 7, "nodes 2" + sign + "native 1;");
        }
    }

    private void words() {
        b.says("Section 6", "A maximal run of the letters a to z is a word, which must be one of the quoted ones.");
        for (int i = 0; i < TOKENS.length; i++) {
            String word = TOKENS[i];
            if (word.charAt(0) >= 'a') {
                badAtToken(i, word.substring(0, word.length() - 1));
                badAtToken(i, word.substring(1));
                badAtToken(i, word + "s");
                badAtToken(i, word + "z");
                badAtToken(i, "a" + word);
                badAtToken(i, word + word);
                badAtToken(i, word.toUpperCase());
                badAtToken(i, word.substring(0, 1).toUpperCase() + word.substring(1));
                badAtToken(i, word.substring(0, word.length() - 1) + "A");
                badAtToken(i, word.substring(0, word.length() - 1) + "{");
                badAtToken(i, word.substring(0, word.length() - 1) + "`");
                badAtToken(i, "z");
                badAtToken(i, "setup");
                for (int k = 0; k < word.length(); k++) {
                    badAtToken(i, word.substring(0, k) + (char) (word.charAt(k) ^ 1) + word.substring(k + 1));
                }
            }
        }
    }

    /** The text with another token at this place, which cannot stand there. */
    private void badAtToken(int place, String instead) {
        String[] tokens = TOKENS.clone();
        tokens[place] = "@" + instead;
        b.bad(String.join(" ", tokens));
    }

    private void numbers() {
        b.says("Section 6", "A maximal run of digits is an INT;");
        b.run("nodes 2;link 0 1 capacity 1234 delay 9;native 10 1;", "capacity 0 = 1234", "layers = 2", "rate 0 1 = 10");
        b.run("nodes 2;link 0 1 capacity 9876 delay 5;native 1;", "capacity 0 = 9876");
        b.bad("nodes 2;link 0 1 capacity @a delay 9;native 1;");
        b.bad("nodes 2;link 0 1 capacity 1@a delay 9;native 1;");

        b.says("Section 6", "it may have leading zeros and has 1 to 4 digits.");
        b.run("nodes 02;native 1;", "nodes = 2");
        b.run("nodes 016;native 1;", "nodes = 16");
        b.run("nodes 0002;link 0000 0001 capacity 0000 delay 0001;cpu 0001 0999;native 0001 0999;format 0099 rates 0001 0999;", "nodes = 2",
                "capacity 0 = 0", "rate 0 2 = 1000", "rate 1 2 = 1000");
        b.bad("nodes @00002;native 1;");
        b.bad("nodes @;native 1;");
        b.bad("nodes 2;link @00000 1 capacity 1 delay 1;native 1;");
        b.bad("nodes 2;link 0 @00001 capacity 1 delay 1;native 1;");
        b.bad("nodes 2;link 0 1 capacity @00001 delay 1;native 1;");
        b.bad("nodes 2;link 0 1 capacity @09999 delay 1;native 1;");
        b.bad("nodes 2;link 0 1 capacity @10000 delay 1;native 1;");
        b.bad("nodes 2;link 0 1 capacity @4294967297 delay 1;native 1;");
        b.bad("nodes 2;link 0 1 capacity 1 delay @00001;native 1;");
        b.bad("nodes 2;cpu @00000 1;native 1;");
        b.bad("nodes 2;cpu 0 @00000;native 1;");
        b.bad("nodes 2;native @00001;");
        b.bad("nodes 2;native 1 @00001;");
        b.bad("nodes 2;native 1;format @00001 rates 1;");
        b.bad("nodes 2;native 1;format 1 rates @00001;");
    }

    private void grammar() {
        b.says("Section 6", "setup = \"nodes\" INT \";\" ..");
        b.good(SMALL);
        b.good("nodes 2;link 0 1 capacity 1 delay 1;native 1;");
        b.good("nodes 2;cpu 0 1;native 1;");
        b.good("nodes 2;native 1;format 1 rates 1;");
        b.bad("@native 1;");
        b.bad("@link 0 1 capacity 1 delay 1;nodes 2;native 1;");
        b.bad("nodes 2;@nodes 2;native 1;");
        b.bad("nodes 2;@format 1 rates 1;native 1;");
        b.bad("nodes 2;cpu 0 1;@link 0 1 capacity 1 delay 1;native 1;");
        b.bad("nodes 2;cpu 0 1;@format 1 rates 1;");
        b.bad("nodes 2;native 1;@native 1;");
        b.bad("nodes 2;native 1;@cpu 0 1;");
        b.bad("nodes 2;native 1;@link 0 1 capacity 1 delay 1;");
        b.bad("nodes 2;native 1;format 1 rates 1;@native 1;");
        b.bad("nodes 2;native 1;@;");
        b.bad("nodes 2;@;native 1;");
        for (int i = 0; i < TOKENS.length; i++) {
            // the token is left out, and the next one cannot stand in its place
            if (i + 1 < TOKENS.length && !isOneOfSeveral(i)) {
                String[] tokens = TOKENS.clone();
                tokens[i] = "";
                tokens[i + 1] = "@" + tokens[i + 1];
                b.bad(String.join(" ", tokens));
            }
            for (String more : "nodes link capacity delay cpu native format rates ;".split(" ")) {
                if (!mayStand(more, i)) {
                    badAtToken(i, more + " " + TOKENS[i]);
                    badAtToken(i, more);
                }
            }
        }
    }

    /** Whether a word or a semicolon may stand in the place of this token. */
    private static boolean mayStand(String token, int i) {
        switch (token) {
            case "link":
                return i == 3 || i == 11 || i == 19;
            case "cpu":
            case "native":
                return i == 3 || i == 11 || i == 19 || i == 23 || i == 27;
            case ";":
                return i == 29 || TOKENS[i].equals(";");
            default:
                return TOKENS[i].equals(token);
        }
    }

    /** One of two INTs in a row: without it the next one stands in its place. */
    private static boolean isOneOfSeveral(int i) {
        return isDigit(TOKENS[i].charAt(0)) && (isDigit(TOKENS[i + 1].charAt(0)) || isDigit(TOKENS[i - 1].charAt(0)));
    }

    private void clauses() {
        b.says("Section 6", "The INT behind \"nodes\" is N.");
        b.run("nodes 9;native 1;", "nodes = 9", "parent 8 = NOT_FOUND", "parent 9 = INVALID");

        b.says("Section 6", "A cpu clause sets the processor capacity (second INT) of a node (first INT);");
        b.edges("nodes 3;cpu @# 5;native 1;", 0, 2);
        b.edges("nodes 3;cpu 2 @#;native 1;", 0, 999);
        b.run("nodes 3;link 0 1 capacity 99 delay 1;cpu 1 2;native 1 1 1;format 1 rates 1 1 1;", "place 1 1 = true", "addReceiver 1 1 3 = 0",
                "level 0 = 2", "cpuLoad 1 = 2");

        b.says("Section 6", "each node at most once;", "the node of a cpu clause that has one already;");
        b.bad("nodes 3;cpu 0 1;cpu @0 1;native 1;");
        b.bad("nodes 3;cpu 2 0;cpu @2 0;native 1;");
        b.bad("nodes 3;cpu 0 1;cpu 1 1;cpu 2 1;cpu @1 1;native 1;");
        b.bad("nodes 3;cpu 0 1;cpu 1 1;cpu 2 1;cpu @3 1;native 1;");
        StringBuilder cpus = new StringBuilder("nodes 16;");
        for (int node = 15; node >= 0; node--) {
            cpus.append("cpu ").append(node).append(" 7;");
        }
        b.good(cpus + "native 1;");
        b.bad(cpus + "cpu @15 7;native 1;");
        b.bad(cpus + "cpu @0 7;native 1;");

        b.says("Section 6", "without it the processor capacity is 0.");
        b.run("nodes 2;cpu 1 9;native 1;format 1 rates 1;", "place 0 1 = true", "addReceiver 0 1 1 = 0", "level 0 = 0", "cpuLoad 0 = 0");
        b.run("nodes 2;cpu 0 1;native 1;format 1 rates 1;", "place 0 1 = true", "addReceiver 0 1 1 = 0", "level 0 = 1", "cpuLoad 0 = 1",
                // the clause of an earlier setup does not count
                "read nodes 2;native 1;format 1 rates 1; = 2", "place 0 1 = true", "addReceiver 0 1 1 = 0", "level 0 = 0");
    }

    private void rates() {
        b.says("Section 6", "The native clause lists the rates of the layers in format 0 (1 to 999 each);");
        b.edges("nodes 2;native @#;", 1, 999);
        b.edges("nodes 2;native @# 2 3 4 5;", 1, 999);
        b.edges("nodes 2;native 1 @#;", 1, 999);
        b.edges("nodes 2;native 1 2 @#;", 1, 999);
        b.edges("nodes 2;native 1 2 3 @#;", 1, 999);
        b.edges("nodes 2;native 1 2 3 4 @#;", 1, 999);

        b.says("Section 6", "their number is L.", "a sixth rate of the native clause;");
        b.run("nodes 2;native 1;", "layers = 1");
        b.run("nodes 2;native 1 1 1 1 1;", "layers = 5");
        b.bad("nodes 2;native @;");
        b.bad("nodes 2;native 1 1 1 1 1 @1;");
        b.bad("nodes 2;native 1 1 1 1 1 @0;");

        b.says("Section 6", "Each format clause describes a further format: its conversion cost (1 to 99), and behind \"rates\" exactly L rates (1 to 999 each).");
        b.edges("nodes 2;native 1;format @# rates 1;", 1, 99);
        b.edges("nodes 2;native 1;format 1 rates 1;format 1 rates 1;format @# rates 1;", 1, 99);
        b.edges("nodes 2;native 1;format 1 rates @#;", 1, 999);
        b.edges("nodes 2;native 1;format 1 rates 1;format 1 rates 1;format 1 rates @#;", 1, 999);
        b.edges("nodes 2;native 1 1 1 1 1;format 1 rates @# 1 1 1 1;", 1, 999);
        b.edges("nodes 2;native 1 1 1 1 1;format 1 rates 1 1 1 1 @#;", 1, 999);

        b.says("Section 6", "the semicolon behind fewer than L rates of a format clause and the INT of a further rate.");
        b.bad("nodes 2;native 1;format 1 rates @;");
        b.bad("nodes 2;native 1;format 1 rates 1 @1;");
        b.good("nodes 2;native 1 1;format 1 rates 1 1;");
        b.bad("nodes 2;native 1 1;format 1 rates @;");
        b.bad("nodes 2;native 1 1;format 1 rates 1@;");
        b.bad("nodes 2;native 1 1;format 1 rates 1 1 @1;");
        b.good("nodes 2;native 1 1 1 1 1;format 1 rates 1 1 1 1 1;");
        b.bad("nodes 2;native 1 1 1 1 1;format 1 rates 1 1 1 1 @;");
        b.bad("nodes 2;native 1 1 1 1 1;format 1 rates 1 1 1 1 1 @1;");
        b.bad("nodes 2;native 1 1;format 1 rates 1 1;format 1 rates 1 @;");
        b.bad("nodes 2;native 1 1;format 1 rates 1 1;format 1 rates 1 1 @1;");
    }

    private void errorPositions() {
        b.says("Section 6", "The error position is the index of the first byte of the first token that cannot stand where it stands;");
        b.bad("@x");
        b.bad(" @x");
        b.bad("\n\n  @nodez 2;native 1;");
        b.bad("nodes 2;native 1;  @x");
        b.bad("nodes @1;native 0;");
        b.bad("nodes @17;link 0 0 capacity 1 delay 1;native 1;");
        b.bad("nodes 2;link 0 @0 capacity 10000 delay 0;native 1;");
        b.bad("nodes 2;native @0 0;x");
        b.bad("nodes 2;native 1;format 1 rates @0;format 0 rates 0;");
        b.badAt(1399, " ".repeat(1399) + "x");
        b.badAt(0, "x".repeat(1400));

        b.says("Section 6", "it is the length of the text if the text ends too early.");
        b.badAt(0, "");
        b.badAt(1, " ");
        b.badAt(1400, " ".repeat(1400));
        StringBuilder text = new StringBuilder();
        for (int i = 0; i < TOKENS.length; i++) {
            String begun = text.toString();
            boolean whole = WHOLE.contains(" " + i + " ");
            goodOrBadAt(whole, begun.length(), begun);
            goodOrBadAt(whole, begun.length() + 2, begun + " \n");
            text.append(TOKENS[i]).append(' ');
        }
        b.good(text.toString());
        b.badAt(16, "nodes 2;native 1");
        b.good("nodes 2;native 1;");
    }

    private void tokensThatCannotStand() {
        b.says("Section 6", "The following tokens cannot stand, either: an INT out of range;");
        b.edges("nodes @#;native 1;", 2, 16);
        for (String nodes : new String[] {"0 1", "2 1", "1 0", "1 2"}) {
            b.good("nodes 3;link " + nodes + " capacity 5 delay 2;native 1;");
        }
        for (String nodes : new String[] {"@3 1", "@9999 1", "@3 3", "1 @3", "1 @9999"}) {
            b.bad("nodes 3;link " + nodes + " capacity 5 delay 2;native 1;");
        }
        b.edges("nodes 2;link 0 1 capacity @# delay 2;native 1;", 0, 9999);
        b.edges("nodes 2;link 0 1 capacity 5 delay @#;native 1;", 1, 99);
        b.edges("nodes 2;cpu @# 5;native 1;", 0, 1);
        b.edges("nodes 16;cpu @# 5;native 1;", 0, 15);

        b.says("Section 6", "the second node of a link if it is the same as the first one, or if these nodes are connected by a link already;");
        b.bad("nodes 16;link 0 @0 capacity 5 delay 2;native 1;");
        b.bad("nodes 16;link 15 @15 capacity 5 delay 2;native 1;");
        b.bad("nodes 16;link 15 @015 capacity 5 delay 2;native 1;");
        b.bad("nodes 16;link 0 15 capacity 5 delay 2;link 0 @15 capacity 5 delay 2;native 1;");
        b.bad("nodes 16;link 0 15 capacity 5 delay 2;link 15 @0 capacity 5 delay 2;native 1;");
        b.good("nodes 16;link 0 15 capacity 5 delay 2;link 0 14 capacity 5 delay 2;link 14 15 capacity 5 delay 2;native 1;");

        b.says("Section 6", "the word of a 33rd link or of a fourth format clause;");
        b.good(Networks.links(32) + "native 1;");
        b.bad(Networks.links(32) + "@link 2 6 capacity 1 delay 1;native 1;");
        b.bad(Networks.links(32) + "@link");
        String formats = "nodes 2;native 1;format 1 rates 1;format 1 rates 1;";
        b.good(formats);
        b.good(formats + "format 1 rates 1;");
        b.bad(formats + "format 1 rates 1;@format 1 rates 1;");
        b.bad(formats + "format 1 rates 1;@format");
    }

    // ---- promises

    private void newObject() {
        b.says("Promise 1", "Creates a system with two nodes without links and with one format of one layer with the rate 1;");
        b.run("", "nodes = 2", "links = 0", "formats = 1", "layers = 1", "rate 0 1 = 1", "rate 0 2 = INVALID", "rate 1 1 = INVALID",
                "parent 1 = NOT_FOUND", "parent 2 = INVALID", "capacity 0 = INVALID", "isOpen 0 = false", "linkBetween 0 1 = NOT_FOUND",
                "linkBetween 1 0 = NOT_FOUND", "busiest 0 = NOT_FOUND", "criticalLink = NOT_FOUND", "addReceiver 1 0 1 = 0",
                "addReceiver 0 0 1 = 1", "levels = 01", "setCapacity 0 1 = INVALID", "setOpen 0 true = INVALID");

        b.says("Promise 1", "the processor capacities are 0, there are no receivers and converters, and the tape is empty.");
        b.run("", "receivers = 0", "level 0 = INVALID", "total 4 = 0", "tapeLength = 0", "truncate 1 = INVALID", "errorPosition = NOT_FOUND",
                "undo = INVALID", "cpuLoad 0 = 0", "cpuLoad 1 = 0", "isPlaced 0 1 = false", "total 3 = 1", "isInTree 0 = true",
                "reportLength = 0", "reportByte 0 = NOT_FOUND", "load = INVALID", "errorPosition = 0", "nodes = 2");
    }

    private static int[] spacesBut(int place, int sign) {
        StringBuilder text = new StringBuilder(" ".repeat(20));
        text.setCharAt(place, (char) sign);
        return Checks.words(text.toString(), 0);
    }

    private static final int SPACES = 0x20202020;

    private void append() {
        b.says("Promise 2", "Appends twenty bytes to the tape: the four bytes of a, most significant byte first, then those of b, c, d and e.",
                "- `a`: bytes 0 to 3", "- `b`: bytes 4 to 7", "- `c`: bytes 8 to 11", "- `d`: bytes 12 to 15", "- `e`: bytes 16 to 19");
        for (int sign : new int[] {0, 1, 'x', 127, 128, 255}) {
            LayeredMulticast x = new LayeredMulticast();
            for (int place = 0; place < 20; place++) {
                int[] w = spacesBut(place, sign);
                b.due("append", x.append(w[0], w[1], w[2], w[3], w[4]), 20);
                b.due("load", x.load(), -1);
                b.due("errorPosition with a wrong byte at " + place, x.errorPosition(), place);
            }
        }

        b.says("Promise 2", "INVALID if it would exceed 1400 bytes (nothing is appended).");
        for (int length : new int[] {0, 1, 1379, 1380}) {
            Script script = new Script(new LayeredMulticast());
            script.feed(" ".repeat(length));
            b.due("append to " + length, script.x.append(SPACES, SPACES, SPACES, SPACES, SPACES), length + 20);
            b.due("tapeLength", script.x.tapeLength(), length + 20);
        }
        for (int length : new int[] {1381, 1390, 1399, 1400}) {
            Script script = new Script(new LayeredMulticast());
            // the text stands at the end, so that each byte too many would be seen
            script.feed(" ".repeat(length - 17) + SMALL);
            b.due("append to " + length, script.x.append(-1, -1, -1, -1, -1), -1);
            b.due("append to " + length, script.x.append(SPACES, SPACES, SPACES, SPACES, SPACES), -1);
            b.due("tapeLength", script.x.tapeLength(), length);
            b.due("load", script.x.load(), 2);
        }

        b.says("Promise 52", "Returns the length of the tape.");
        b.run("", "tapeLength = 0", "append 0 0 0 0 0 = 20", "tapeLength = 20", "append 0 0 0 0 0 = 40", "tapeLength = 40", "truncate 1 = 39",
                "tapeLength = 39", "truncate 39 = 0", "tapeLength = 0", "append 0 0 0 0 0 = 20", "load = INVALID", "tapeLength = 0");
    }

    private void truncate() {
        b.says("Promise 3", "Removes the last bytes of the tape.");
        b.run("", "feed nodes 2;native 1;xyz = 20", "truncate 3 = 17", "load = 2");
        b.run("", "feed nodes 2;native 1;xyz = 20", "truncate 2 = 18", "load = INVALID", "errorPosition = 17");
        b.run("", "feed nodes 2;native 1;xyz = 20", "truncate 4 = 16", "load = INVALID", "errorPosition = 16");
        // what has been removed is gone
        b.run("", "feed nodes 2;native 1;xyz = 20", "truncate 20 = 0", "feed nodes 2;native 1; = 17", "load = 2");

        b.says("Promise 3", "- `n`: number of bytes, 0 to the length of the tape");
        b.run("", "truncate 0 = 0", "append 0 0 0 0 0 = 20", "truncate 0 = 20", "truncate 1 = 19", "truncate 18 = 1", "truncate 1 = 0", "truncate 0 = 0");
        b.run("", "append 0 0 0 0 0 = 20", "truncate 20 = 0", "tapeLength = 0");
        Script full = new Script(new LayeredMulticast());
        full.feed(" ".repeat(1400));
        b.due("truncate of a full tape", full.x.truncate(1400), 0);

        b.says("Promise 3", "INVALID if n is out of range.");
        b.kept("", new String[0], "truncate 1 = INVALID", "truncate -1 = INVALID", "truncate -2147483648 = INVALID", "truncate 2147483647 = INVALID");
        b.kept(SMALL, new String[] {"feed nodes 5;native 1 = 16"}, "truncate 17 = INVALID", "truncate -1 = INVALID", "truncate 20 = INVALID",
                "truncate -2147483648 = INVALID", "truncate 2147483647 = INVALID");
    }

    private static final String[] BUSY = {"place 2 1 = true", "addReceiver 4 0 3 = 0", "addReceiver 2 1 3 = 1", "leave 1 = 2",
        "setCapacity 4 6 = NOT_FOUND", "setCapacity 4 5 = 0", "setOpen 5 false = 0"};

    private void load() {
        b.says("Promise 4", "Parses the tape as a setup text.");
        b.run("", "feed nodes 2;na = 10", "feed tive 1; = 17", "load = 2");
        String longest = " ".repeat(1400 - 17) + SMALL;
        b.due("the length of the longest text", longest.length(), 1400);
        b.good(longest);

        b.says("Promise 4", "The tape is empty afterwards.");
        b.run("", "read nodes 2;native 1; = 2", "tapeLength = 0", "truncate 1 = INVALID", "load = INVALID", "errorPosition = 0");
        b.run("", "read nodes 2;native 1;x = INVALID", "tapeLength = 0", "truncate 1 = INVALID", "load = INVALID", "errorPosition = 0",
                "read nodes 3;native 1; = 3");

        b.says("Promise 4", "On success the setup is replaced, all links are open, the tree consists of the source, there are no receivers and converters, "
                + "and nothing can be undone.");
        b.runAfter(Networks.RING, BUSY, "read " + Networks.RING + " = 6", "undo = INVALID", "receivers = 0", "level 0 = INVALID", "hasLeft 1 = false",
                "total 4 = 0", "isPlaced 2 1 = false", "total 3 = 1", "isInTree 0 = true", "isInTree 4 = false", "parent 1 = NOT_FOUND", "isOpen 5 = true",
                "capacity 4 = 6", "total 2 = 0", "reportLength = 0", "addReceiver 1 0 3 = 0", "level 0 = 3", "undo = 0", "undo = INVALID");
        b.runAfter(Networks.RING, BUSY, "read " + Networks.RING + " = 6", "addReceiver 4 0 3 = 0", "addReceiver 4 0 3 = 1", "hasLeft 1 = false", "levels = 33");
        b.runAfter(Networks.RING, BUSY, "read nodes 2;native 4; = 2", "undo = INVALID", "nodes = 2", "links = 0", "formats = 1", "layers = 1",
                "rate 0 1 = 4", "rate 0 2 = INVALID", "rate 1 1 = INVALID", "capacity 0 = INVALID", "linkBetween 0 1 = NOT_FOUND", "parent 2 = INVALID",
                "place 0 1 = false", "addReceiver 1 0 1 = 0", "level 0 = 0");

        oldReceivers();

        b.says("Promise 4", "On an error everything but the tape and the error position stays.", "INVALID on an error.");
        b.keptButTape(Networks.RING, BUSY, "load = INVALID", "read x = INVALID", "read nodes 2; = INVALID", "read nodes 17;native 1; = INVALID",
                "read nodes 2;native 1;x = INVALID", "read nodes 2;native 9 9 9 9 9;format 9 rates 9 9 9 9; = INVALID",
                "read nodes 2;link 0 1 capacity 77 delay 9;cpu 0 9;native 9;format 9 rates 9;format 9 rates 9;format 9 rates 9;format = INVALID");
        b.keptButTape("", new String[] {"addReceiver 0 0 1 = 0"}, "load = INVALID", "read nodes 3;native 2;; = INVALID");
        b.runAfter(Networks.RING, BUSY, "read nodes 2;link 0 1 capacity 77 delay 9;cpu 0 9;native 9;format 9 rates 1 1; = INVALID", "nodes = 6",
                "formats = 3", "rate 0 3 = 5", "rate 2 3 = 9", "delay 4 = 7", "linkBetween 3 5 = 5", "undo = 5");
    }

    /** Nothing counts, raises or lowers the twenty receivers of the setup before. */
    private void oldReceivers() {
        String wide = OperationBoundaries.WIDE;
        String[] again = OperationBoundaries.crowd(new String[0], 0, 5, "read " + wide + " = 2");
        b.runAfter(wide, again, "receivers = 0", "total 0 = 0", "total 1 = 0", "total 2 = 0", "total 3 = 1", "total 4 = 0", "total 5 = 0", "total 6 = 0",
                "total 7 = 0", "neediest = NOT_FOUND", "improve = NOT_FOUND", "rebuild = NOT_FOUND", "criticalLink = 0", "loss 0 = 0", "gain 0 1 = 0",
                "setCapacity 0 0 = 0", "setOpen 0 false = 0", "undo = 1", "undo = 0");
        b.runAfter(wide, again, "addReceiver 1 0 1 = 0", "setWanted 0 2 = 1", "neediest = 0", "total 0 = 1", "total 1 = 2", "total 2 = 1", "total 6 = 0", "total 7 = 1",
                "improve = 1", "loss 0 = 2", "setCapacity 0 1 = 1", "level 0 = 1", "setCapacity 0 0 = 1", "level 0 = 0", "isInTree 1 = false",
                "setCapacity 0 10 = 0", "rebuild = 2", "setOpen 0 false = 2", "isInTree 1 = false", "setOpen 0 true = 0", "improve = 2", "leave 0 = 2",
                "isInTree 1 = false", "total 0 = 0");
        String[] made = OperationBoundaries.crowd(new String[] {"place 0 1 = true"}, 1, 5, "read " + wide + " = 2");
        b.runAfter(wide, made, "place 0 1 = true", "addReceiver 1 1 1 = 0", "cpuLoad 0 = 1", "remove 0 1 = 1", "level 0 = 0");
        b.runAfter(wide, again, "addReceiver 0 0 1 = 0", "setWanted 0 2 = 1", "rebuild = 1", "level 0 = 2", "isInTree 1 = false", "total 3 = 1");
        String weak = "nodes 2;link 0 1 capacity 99 delay 1;cpu 0 2;cpu 1 5;native 1 1 1 1 1;format 1 rates 1 1 1 1 1;";
        b.runAfter(weak, OperationBoundaries.crowd(new String[] {"place 1 1 = true"}, 1, 5, "read " + weak + " = 2"), "place 0 1 = true", "place 1 1 = true",
                "addReceiver 1 1 3 = 0", "level 0 = 3", "remove 1 1 = 1", "level 0 = 2");
        b.runAfter(wide, OperationBoundaries.crowd(new String[0], 0, 5, "setCapacity 0 0 = 100", "read " + wide + " = 2"), "addReceiver 1 0 1 = 0",
                "neediest = NOT_FOUND", "improve = NOT_FOUND", "rebuild = NOT_FOUND", "total 1 = 1");
    }

    private void errorPosition() {
        b.says("Promise 5", "Returns the error position of the latest load.");
        b.run("", "read nodes 2;x = INVALID", "errorPosition = 8", "read x = INVALID", "errorPosition = 0", "read nodes = INVALID", "errorPosition = 5",
                "read nodes 2;native 1; = 2", "errorPosition = NOT_FOUND", "load = INVALID", "errorPosition = 0");
        // other calls leave it
        b.run("", "read nodes 2;x = INVALID", "append 0 0 0 0 0 = 20", "errorPosition = 8", "truncate 20 = 0", "addReceiver 0 0 1 = 0", "undo = 0",
                "errorPosition = 8");

        b.says("Promise 5", "NOT_FOUND if that load succeeded or there was no load.");
        b.run("", "errorPosition = NOT_FOUND", "append 0 0 0 0 0 = 20", "errorPosition = NOT_FOUND", "truncate 20 = 0", "errorPosition = NOT_FOUND",
                "read nodes 2;native 1; = 2", "errorPosition = NOT_FOUND", "read nodes 2;native 1;1 = INVALID", "errorPosition = 17",
                "read nodes 2;native 1; = 2", "errorPosition = NOT_FOUND");
    }

    private void counts() {
        b.says("Promise 6", "Returns the number of nodes.");
        b.run("", "nodes = 2", "read nodes 16;native 1; = 16", "nodes = 16", "read nodes 17;native 1; = INVALID", "nodes = 16", "read nodes 2;native 1; = 2",
                "nodes = 2");

        b.says("Promise 7", "Returns the number of links.");
        b.run(Networks.links(32) + "native 1;", "links = 32", "setOpen 0 false = 0", "links = 32", "read nodes 2;native 1; = 2", "links = 0");

        b.says("Promise 8", "Returns the number of formats.");
        b.run("", "formats = 1", "read nodes 2;native 1;format 1 rates 1;format 1 rates 1;format 1 rates 1; = 2", "formats = 4",
                "read nodes 2;native 1; = 2", "formats = 1");

        b.says("Promise 9", "Returns the number of layers.");
        b.run("", "layers = 1", "read nodes 2;native 1 1 1 1 1; = 2", "layers = 5", "read nodes 2;native 1; = 2", "layers = 1");
    }
}
