/** Promises 1 to 13 and 52: a new object, the tape, the setup text, the network and the stream. */
public final class SetupTest {
    private static final Checks CHECKS = new Checks("SetupTest");
    private static final String SMALL = "nodes 2;native 1;";

    public static void main(String[] args) {
        newObject();
        append();
        truncate();
        loadReplaces();
        loadRefuses();
        loadForgets();
        goodTexts();
        errorPositions();
        limitsOfTexts();
        numbers();
        CHECKS.end();
    }

    private static void newObject() {
        Script.run(CHECKS, "promise 1", "",
                "nodes = 2", "links = 0", "formats = 1", "layers = 1", "rate 0 1 = 1", "rate 0 2 = INVALID",
                "rate 1 1 = INVALID", "cpuLoad 0 = 0", "cpuLoad 1 = 0", "cpuLoad 2 = INVALID",
                "receivers = 0", "total 4 = 0", "total 3 = 1", "tapeLength = 0", "errorPosition = NOT_FOUND",
                "undo = INVALID", "isInTree 0 = true", "isInTree 1 = false", "linkBetween 0 1 = NOT_FOUND",
                "isOpen 0 = false", "capacity 0 = INVALID", "place 0 1 = false", "criticalLink = NOT_FOUND",
                "addReceiver 1 0 1 = 0", "addReceiver 0 0 1 = 1", "levels = 01", "load = INVALID",
                "errorPosition = 0");
    }

    private static void append() {
        LayeredMulticast x = new LayeredMulticast();
        // "nodes 2;native 1;  ;": the last byte cannot stand
        CHECKS.due("promise 2: append", x.append(0x6e6f6465, 0x7320323b, 0x6e617469, 0x76652031, 0x3b20203b), 20);
        CHECKS.due("promise 2: load", x.load(), -1);
        CHECKS.due("promise 2: errorPosition", x.errorPosition(), 19);
        CHECKS.due("promise 2: append", x.append(0x6e6f6465, 0x7320323b, 0x6e617469, 0x76652031, 0x3b202020), 20);
        CHECKS.due("promise 2: load", x.load(), 2);
        for (int i = 1; i <= 70; i++) {
            CHECKS.due("promise 2: append", x.append(0x20202020, 0x20202020, 0x20202020, 0x20202020, 0x20202020), 20 * i);
        }
        CHECKS.due("promise 2: append to a full tape", x.append(0, 0, 0, 0, 0), -1);
        CHECKS.due("promise 52: tapeLength", x.tapeLength(), 1400);
        CHECKS.due("promise 3: truncate", x.truncate(19), 1381);
        CHECKS.due("promise 2: append beyond the end", x.append(0, 0, 0, 0, 0), -1);
        CHECKS.due("promise 52: tapeLength", x.tapeLength(), 1381);
        CHECKS.due("promise 3: truncate", x.truncate(1), 1380);
        CHECKS.due("promise 2: append to the end", x.append(0x20202020, 0x20202020, 0x20202020, 0x20202020, 0x20202020), 1400);
        CHECKS.due("promise 4: load of spaces", x.load(), -1);
        CHECKS.due("promise 5: errorPosition", x.errorPosition(), 1400);
        CHECKS.due("promise 2: append of high bytes", x.append(0x20202080, -1, -1, -1, -1), 20);
        CHECKS.due("promise 4: load", x.load(), -1);
        CHECKS.due("promise 5: errorPosition", x.errorPosition(), 3);
    }

    private static void truncate() {
        LayeredMulticast x = new LayeredMulticast();
        CHECKS.due("promise 3: truncate", x.truncate(0), 0);
        CHECKS.due("promise 3: truncate", x.truncate(1), -1);
        Checks.feed(x, SMALL + "xyz");
        CHECKS.due("promise 52: tapeLength", x.tapeLength(), 20);
        CHECKS.due("promise 3: truncate", x.truncate(-1), -1);
        CHECKS.due("promise 3: truncate", x.truncate(21), -1);
        CHECKS.due("promise 3: truncate", x.truncate(Integer.MIN_VALUE), -1);
        CHECKS.due("promise 3: truncate", x.truncate(0), 20);
        CHECKS.due("promise 3: truncate", x.truncate(3), 17);
        CHECKS.due("promise 52: tapeLength", x.tapeLength(), 17);
        CHECKS.due("promise 4: load", x.load(), 2);
        CHECKS.due("promise 52: tapeLength", x.tapeLength(), 0);
        Checks.feed(x, SMALL);
        CHECKS.due("promise 3: truncate", x.truncate(17), 0);
    }

    private static void loadReplaces() {
        LayeredMulticast x = Script.run(CHECKS, "promise 4", Networks.RING,
                "place 1 1 = true", "addReceiver 4 0 3 = 0", "setOpen 5 false = 0", "setCapacity 0 50 = 0",
                "levels = 3", "total 3 = 4");
        CHECKS.due("promise 4: load", Checks.load(x, Networks.RING), 6);
        Script.more(CHECKS, "promise 4", x,
                "receivers = 0", "level 0 = INVALID", "isPlaced 1 1 = false", "total 4 = 0", "isOpen 5 = true",
                "capacity 0 = 10", "total 3 = 1", "isInTree 1 = false", "isInTree 0 = true", "undo = INVALID",
                "report = ", "tapeLength = 0", "errorPosition = NOT_FOUND");
        CHECKS.due("promise 4: load", Checks.load(x, "nodes 3;link 0 1 capacity 7 delay 1;native 4;format 9 rates 2;"), 3);
        // the processors of the old setup are gone, and so are its links and formats
        Script.more(CHECKS, "promise 4", x,
                "nodes = 3", "links = 1", "formats = 2", "layers = 1", "rate 0 1 = 4", "rate 1 1 = 2",
                "rate 1 2 = INVALID", "linkBetween 1 2 = NOT_FOUND", "linkBetween 1 0 = 0", "capacity 0 = 7",
                "capacity 1 = INVALID", "place 1 1 = true", "addReceiver 1 1 1 = 0", "level 0 = 0",
                "addReceiver 1 0 1 = 1", "level 1 = 1");
    }

    private static void loadRefuses() {
        LayeredMulticast x = Script.run(CHECKS, "promise 4", Networks.RING,
                "addReceiver 4 0 3 = 0", "place 1 1 = true", "setCapacity 0 11 = 0");
        CHECKS.due("promise 4: load", Checks.load(x, "nodes 9;link 0 1 capacity 5 delay 1;native 7 7;oops"), -1);
        Script.more(CHECKS, "promise 4", x,
                "errorPosition = 47", "tapeLength = 0", "nodes = 6", "links = 6", "formats = 3", "layers = 3",
                "rate 0 3 = 5", "capacity 0 = 11", "levels = 3", "isPlaced 1 1 = true",
                "report = 1 0 300|2 1 300|4 2 300|", "undo = 2", "capacity 0 = 10", "load = INVALID",
                "errorPosition = 0", "undo = 1", "isPlaced 1 1 = false", "undo = 0", "undo = INVALID");
        CHECKS.due("promise 4: load", Checks.load(x, SMALL), 2);
        CHECKS.due("promise 5: errorPosition", x.errorPosition(), -2);
    }

    private static void loadForgets() {
        LayeredMulticast x = Script.run(CHECKS, "promise 4", Networks.CHAIN,
                "addReceiver 1 0 4 = 0", "addReceiver 2 0 3 = 1", "leave 0 = 4", "place 0 1 = true", "place 0 2 = true");
        CHECKS.due("promise 4: load", Checks.load(x, "nodes 2;link 0 1 capacity 9 delay 1;cpu 0 1;native 1 1;format 1 rates 1 1;"), 2);
        // the new receiver 0 has not left, and a node without a cpu clause makes nothing
        Script.more(CHECKS, "promise 4", x,
                "addReceiver 1 0 2 = 0", "levels = 2", "hasLeft 0 = false", "wanted 0 = 2", "total 0 = 2", "total 4 = 0",
                "place 1 1 = true", "offer 1 1 = 0", "place 0 1 = true", "remove 1 1 = 0", "offer 1 1 = 1", "offer 0 1 = 1");
    }

    private static void good(String text, int nodes) {
        LayeredMulticast x = new LayeredMulticast();
        CHECKS.due("promise 4: load of " + text, Checks.load(x, text), nodes);
        CHECKS.due("promise 5: errorPosition for " + text, x.errorPosition(), -2);
    }

    private static void goodTexts() {
        good("nodes2;native1;", 2);
        good("\n nodes\n0016 ; native 001 0999 ;\n", 16);
        good("nodes 2;link 1 0capacity 0delay 1;native 1;", 2);
        good("nodes 2;link 0 1 capacity 9999 delay 99;cpu 1 999;cpu 0 0;native 999 1 2 3 4;format 99 rates 999 1 2 3 4;", 2);
        good("nodes 3;link 0 1 capacity 1 delay 1;link 2 1 capacity 1 delay 1;link 0 2 capacity 1 delay 1;native 1;", 3);
        good("nodes 2;native 1;format 1 rates 1;format 1 rates 2;format 1 rates 3;", 2);
    }

    /** The text has the sign @ in front of the token that cannot stand. */
    private static void bad(String marked) {
        int position = marked.indexOf('@');
        String text = marked.substring(0, position) + marked.substring(position + 1);
        LayeredMulticast x = new LayeredMulticast();
        CHECKS.due("promise 4: load of " + marked, Checks.load(x, text), -1);
        CHECKS.due("promise 5: errorPosition for " + marked, x.errorPosition(), position);
    }

    private static void errorPositions() {
        String[] texts = {
            "@", "  \n@", "@node 2;", "@modes 2;", "@nodesz 2;", "@znodes 2;", "@noddes 2;", "@nodfs 2;", "@nodess 2;", "@Nodes 2;", "@2;", "@;", "@link 0 1", "@\t", "@native 1;",
            "nodes@", "nodes @;", "nodes @1;", "nodes @17;", "nodes @00002;native 1;", "nodes @nodes", "nodes @-2;",
            "nodes 2@", "nodes 2 @3;", "nodes 2 @native 1;", "nodes 2@A;", "nodes 2;@", "nodes 2;  @", "nodes 2;@;",
            "nodes 2;@nodes 2;", "nodes 2;@links 0 1", "nodes 2;@format 1 rates 1;",
            "nodes 3;link @3 0 capacity 1 delay 1;", "nodes 3;link @;", "nodes 3;link 0 @capacity 1",
            "nodes 3;link 0 @0 capacity", "nodes 3;link 0 @3 capacity", "nodes 3;link 1 @01 capacity",
            "nodes 3;link 0 1 @delay 1", "nodes 3;link 0 1 @2", "nodes 3;link 0 1 capacity @;",
            "nodes 3;link 0 1 capacity @10000 delay 1;", "nodes 3;link 0 1 capacity 1 @;", "nodes 3;link 0 1 capacity 1 @capacity",
            "nodes 3;link 0 1 capacity 1 delay @0;", "nodes 3;link 0 1 capacity 1 delay @100;",
            "nodes 3;link 0 1 capacity 1 delay @;", "nodes 3;link 0 1 capacity 1 delay 1 @native",
            "nodes 3;link 0 1 capacity 1 delay 1@",
            "nodes 3;link 0 1 capacity 1 delay 1;link 0 @1 capacity", "nodes 3;link 0 1 capacity 1 delay 1;link 1 @0 capacity",
            "nodes 3;cpu @3 1;", "nodes 3;cpu @;", "nodes 3;cpu 0 @1000;", "nodes 3;cpu 0 @;", "nodes 3;cpu 0 1 @2;",
            "nodes 3;cpu 0 1;cpu @0 1;", "nodes 3;cpu 0 1;cpu 2 0;cpu 1 1;cpu @2 1;", "nodes 3;cpu 0 1;cpu 1 1;cpu 2 1;cpu @1",
            "nodes 3;cpu 0 1;@link 0 1 capacity 1 delay 1;",
            "nodes 2;native @;", "nodes 2;native @0;", "nodes 2;native @1000;", "nodes 2;native 1 @0;", "nodes 2;native 1 @1000;",
            "nodes 2;native 1 @format", "nodes 2;native 1 2 3 4 5 @6;", "nodes 2;native 1 2 3 4 5@", "nodes 2;native 1 @12345;",
            "nodes 2;native 1;@native 1;", "nodes 2;native 1;@;", "nodes 2;native 1;@1", "nodes 2;native 1;@cpu 0 1;",
            "nodes 2;native 1; @x", "nodes 2;native 1; @,",
            "nodes 2;native 1;format @0 rates", "nodes 2;native 1;format @100 rates", "nodes 2;native 1;format @rates",
            "nodes 2;native 1;format 1 @1", "nodes 2;native 1;format 1 @;", "nodes 2;native 1;format 1 rates @;",
            "nodes 2;native 1;format 1 rates @0;", "nodes 2;native 1;format 1 rates @1000;", "nodes 2;native 1;format 1 rates 1 @1;",
            "nodes 2;native 1 1;format 1 rates 1@;", "nodes 2;native 1 1;format 1 rates 1 1 @1;",
            "nodes 2;native 1 1;format 1 rates 1 @format", "nodes 2;native 1 1;format 1 rates 1 1@",
            "nodes 2;native 1;format 1 rates 1;@rates",
            "nodes 2;native 1;format 1 rates 1;format 1 rates 1;format 1 rates 1;@format 1 rates 1;",
            "nodes 2;native 1;format 1 rates 1;format 1 rates 1;format 1 rates 1;@2",
        };
        for (String text : texts) {
            bad(text);
        }
        CHECKS.due("promise 5: errorPosition without load", new LayeredMulticast().errorPosition(), -2);
    }

    private static void limitsOfTexts() {
        StringBuilder text = new StringBuilder("nodes 16;");
        int links = 0;
        for (int a = 0; a < 16 && links < 32; a++) {
            for (int b = a + 1; b < 16 && links < 32; b++) {
                text.append("link ").append(b).append(' ').append(a).append(" capacity ").append(links).append(" delay 1;");
                links++;
            }
        }
        good(text + "native 1;", 16);
        bad(text + "@link 14 15 capacity 1 delay 1;native 1;");
        LayeredMulticast x = Checks.loaded(text + "native 1;");
        Script.more(CHECKS, "promises 7, 11, 12", x,
                "links = 32", "capacity 31 = 31", "capacity 32 = INVALID", "linkBetween 0 15 = 14",
                "linkBetween 15 0 = 14", "linkBetween 1 2 = 15", "linkBetween 15 14 = NOT_FOUND", "isOpen 31 = true",
                "isOpen 32 = false");
        StringBuilder cpus = new StringBuilder("nodes 16;");
        for (int node = 15; node >= 0; node--) {
            cpus.append("cpu ").append(node).append(" 7;");
        }
        good(cpus + "native 1;", 16);
        bad(cpus + "cpu @5 7;native 1;");
    }

    private static void numbers() {
        Script.run(CHECKS, "promises 6 to 13", Networks.RING,
                "nodes = 6", "links = 6", "formats = 3", "layers = 3",
                "rate 0 1 = 2", "rate 0 2 = 4", "rate 0 3 = 5", "rate 1 1 = 1", "rate 1 3 = 3", "rate 2 1 = 3", "rate 2 3 = 9",
                "rate 0 0 = INVALID", "rate 0 4 = INVALID", "rate 3 1 = INVALID", "rate -1 1 = INVALID", "rate 0 -1 = INVALID",
                "linkBetween 0 1 = 0", "linkBetween 1 0 = 0", "linkBetween 2 3 = 3", "linkBetween 5 3 = 5",
                "linkBetween 0 2 = NOT_FOUND", "linkBetween 4 4 = NOT_FOUND", "linkBetween 0 6 = INVALID",
                "linkBetween 6 0 = INVALID", "linkBetween -1 0 = INVALID", "linkBetween 0 -1 = INVALID",
                "capacity 0 = 10", "capacity 5 = 4", "capacity 6 = INVALID", "capacity -1 = INVALID",
                "setCapacity 5 3 = 0", "capacity 5 = 3",
                "isOpen 0 = true", "isOpen 5 = true", "isOpen 6 = false", "isOpen -1 = false",
                "setOpen 5 false = 0", "isOpen 5 = false", "linkBetween 3 5 = 5", "setOpen 5 true = 0", "isOpen 5 = true");
    }
}
