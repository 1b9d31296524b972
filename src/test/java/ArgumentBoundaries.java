import java.util.ArrayList;
import java.util.List;

/**
 * Section 7: for each call all arguments that are just taken and that are just refused, alone and
 * together. A refused call must leave everything as it was, and so must every call that only asks.
 */
final class ArgumentBoundaries {
    /** Receivers 0 to 2 are there (with the levels 3, 1 and 0), receiver 3 has left; link 3 is closed; the tape has eight bytes. */
    private static final String[] BEFORE = {"place 2 1 = true", "addReceiver 4 0 3 = 0", "addReceiver 4 1 2 = 1", "addReceiver 5 2 3 = 2",
        "addReceiver 1 0 1 = 3", "leave 3 = 1", "setOpen 3 false = 0", "levels = 3100", "feed nodes 3; = 8"};
    private static final int LEAST = Integer.MIN_VALUE;
    private static final int GREATEST = Integer.MAX_VALUE;
    private final Boundary b;

    ArgumentBoundaries(Boundary b) {
        this.b = b;
    }

    void test() {
        smallestAndLargest();
        receiversThatHaveLeft();
        checkedFirst();
        b.says("Section 7", "A call with an invalid argument returns INVALID (or false) and changes nothing;",
                "- `INVALID = -1`: Result of a call with an invalid argument.");
        b.due("INVALID", LayeredMulticast.INVALID, -1);
        setupCalls();
        operations();
        receiverCalls();
        treeCalls();
        questions();
    }

    private void smallestAndLargest() {
        b.says("Section 7", "A node, link, format, receiver or level argument is valid if there is one of that number (levels 1 to L);");
        b.run("", "parent -1 = INVALID", "parent 0 = NOT_FOUND", "parent 1 = NOT_FOUND", "parent 2 = INVALID", "capacity -1 = INVALID", "capacity 0 = INVALID",
                "rate 0 0 = INVALID", "rate 0 1 = 1", "rate 0 2 = INVALID", "rate -1 1 = INVALID", "rate 1 1 = INVALID", "wanted -1 = INVALID",
                "wanted 0 = INVALID", "addReceiver 1 0 1 = 0", "wanted 0 = 1", "wanted 1 = INVALID", "place 0 0 = false", "place 0 1 = false");
        List<String> lines = new ArrayList<>(List.of("parent 15 = NOT_FOUND", "parent 16 = INVALID", "capacity 31 = 31", "capacity 32 = INVALID",
                "rate 3 5 = 5", "rate 4 5 = INVALID", "rate 3 6 = INVALID", "rate 3 0 = INVALID", "isOpen 31 = true", "isOpen 32 = false",
                "isInTree 16 = false", "place 15 3 = true", "place 15 4 = false", "place 16 3 = false", "isPlaced 15 3 = true"));
        for (int i = 0; i < 20; i++) {
            lines.add("wanted " + i + " = INVALID");
            lines.add("addReceiver 0 0 5 = " + i);
            lines.add("wanted " + i + " = 5");
        }
        lines.add("wanted 20 = INVALID");
        String format = "format 1 rates 1 1 1 1 1;";
        b.run(Networks.links(32) + "native 1 1 1 1 1;" + format + format + format, lines.toArray(new String[0]));
    }

    private void receiversThatHaveLeft() {
        b.says("Section 7", "a receiver that has left is not valid, unless said otherwise.");
        String[] before = {"addReceiver 4 0 3 = 0", "addReceiver 4 0 2 = 1", "leave 0 = 3"};
        b.kept(Networks.RING, before, "leave 0 = INVALID", "setWanted 0 1 = INVALID", "setWanted 0 3 = INVALID", "raise 0 = INVALID", "wanted 0 = INVALID",
                "servedAt 0 = INVALID", "pathNode 0 0 = INVALID", "bottleneck 0 = INVALID", "shared 0 1 = INVALID", "shared 1 0 = INVALID",
                "shared 0 0 = INVALID", "level 0 = 0", "hasLeft 0 = true");
        b.kept(Networks.RING, before, "wanted 1 = 2", "servedAt 1 = NOT_FOUND", "pathNode 1 0 = 4", "bottleneck 1 = 1", "shared 1 1 = 3", "level 1 = 2",
                "hasLeft 1 = false");
    }

    private void checkedFirst() {
        b.says("Section 7", "this is checked before any other special result.",
                "- `NOT_FOUND = -2`: Result of a call that finds nothing or is not possible.");
        b.due("NOT_FOUND", LayeredMulticast.NOT_FOUND, -2);
        b.runAfter(Networks.RING, BEFORE,
                "linkBetween 0 2 = NOT_FOUND", "linkBetween 0 6 = INVALID", "linkBetween 6 6 = INVALID",
                "remove 0 1 = NOT_FOUND", "remove 0 0 = INVALID", "remove 0 3 = INVALID", "remove 6 1 = INVALID",
                "setWanted 0 3 = NOT_FOUND", "setWanted 3 1 = INVALID", "setWanted 0 4 = INVALID",
                "raise 0 = NOT_FOUND", "raise 3 = INVALID", "raise 4 = INVALID",
                "setCapacity 0 10 = NOT_FOUND", "setCapacity 6 10 = INVALID",
                "setOpen 0 true = NOT_FOUND", "setOpen 6 true = INVALID", "setOpen -1 true = INVALID",
                "servedAt 2 = NOT_FOUND", "servedAt 3 = INVALID",
                "pathNode 2 0 = NOT_FOUND", "pathNode 2 -1 = INVALID", "pathNode 0 9 = NOT_FOUND", "pathNode 3 9 = INVALID",
                "bottleneck 2 = NOT_FOUND", "bottleneck 3 = INVALID", "shared 2 0 = 0", "shared 2 3 = INVALID", "shared 3 2 = INVALID",
                "demand 5 0 = 0", "demand 5 3 = INVALID", "demand 6 0 = INVALID",
                "graftNode 4 0 1 0 = NOT_FOUND", "graftNode 4 0 1 -1 = INVALID", "graftNode 4 3 1 0 = INVALID", "graftNode 4 0 4 0 = INVALID",
                "graftNode 5 0 3 0 = NOT_FOUND", "graftNode 5 0 3 -1 = INVALID",
                "gain 2 1 = NOT_FOUND", "gain 2 0 = INVALID", "gain 6 1 = INVALID", "loss 3 = 0", "loss 6 = INVALID");
        b.run("", "busiest 0 = NOT_FOUND", "busiest -1 = INVALID", "reportByte 0 = NOT_FOUND", "reportByte -1 = INVALID", "bestPlace 0 = INVALID");
        List<String> full = new ArrayList<>();
        for (int i = 0; i < 20; i++) {
            full.add("addReceiver 0 0 1 = " + i);
        }
        full.addAll(List.of("addReceiver 0 0 1 = NOT_FOUND", "addReceiver 2 0 1 = INVALID", "addReceiver -1 0 1 = INVALID", "addReceiver 0 1 1 = INVALID",
                "addReceiver 0 0 0 = INVALID", "addReceiver 0 0 2 = INVALID"));
        b.run("", full.toArray(new String[0]));
    }

    // ---- the calls one by one

    /** The arguments of a kind that are refused with RING and BEFORE. */
    private static int[] refused(String kind) {
        switch (kind) {
            case "node":
                return new int[] {LEAST, -1, 6, 15, 16, GREATEST};
            case "link":
                return new int[] {LEAST, -1, 6, 31, 32, GREATEST};
            case "format":
                return new int[] {LEAST, -1, 3, 4, GREATEST};
            case "made":
                return new int[] {LEAST, -1, 0, 3, 4, GREATEST};
            case "level":
                return new int[] {LEAST, -1, 0, 4, 5, 6, GREATEST};
            case "receiver":
                return new int[] {LEAST, -1, 3, 4, 19, 20, GREATEST};
            case "number":
                return new int[] {LEAST, -1, 4, 19, 20, 21, GREATEST};
            case "capacity":
                return new int[] {LEAST, -1, 10000, GREATEST};
            case "what":
                return new int[] {LEAST, -1, 8, GREATEST};
            case "length":
                return new int[] {LEAST, -1, 9, 20, GREATEST};
            case "index":
                return new int[] {LEAST, -1};
            default:
                throw new IllegalArgumentException(kind);
        }
    }

    /** The least and the greatest argument of a kind that are taken. */
    private static int[] taken(String kind) {
        switch (kind) {
            case "node":
            case "link":
                return new int[] {0, 5};
            case "format":
            case "receiver":
                return new int[] {0, 2};
            case "made":
                return new int[] {1, 2};
            case "level":
                return new int[] {1, 3};
            case "number":
                return new int[] {0, 3};
            case "capacity":
                return new int[] {0, 9999};
            case "what":
                return new int[] {0, 7};
            case "length":
                return new int[] {0, 8};
            case "index":
                return new int[] {0, GREATEST};
            default:
                throw new IllegalArgumentException(kind);
        }
    }

    /**
     * All calls with a refused argument.
     *
     * @param form the method and the kinds of its arguments; "true" and "false" stand for themselves
     */
    private void refuse(String place, String sentence, String form) {
        b.says(place, sentence);
        for (String row : b.document().arguments(place)) {
            b.document().cite(place, row);
        }
        String[] parts = form.split(" ");
        List<String> alone = new ArrayList<>();
        List<String> together = new ArrayList<>();
        extend(parts, 1, parts[0], 0, alone, together);
        String answer = sentence.startsWith("false") ? " = false" : " = INVALID";
        alone.replaceAll(call -> call + answer);
        together.replaceAll(call -> call + answer);
        b.kept(Networks.RING, BEFORE, alone.toArray(new String[0]));
        for (int from = 0; from < together.size(); from += 300) {
            List<String> some = together.subList(from, Math.min(from + 300, together.size()));
            b.runAfter(Networks.RING, BEFORE, some.toArray(new String[0]));
        }
    }

    private void extend(String[] parts, int at, String call, int wrong, List<String> alone, List<String> together) {
        if (at == parts.length) {
            if (wrong == 1) {
                alone.add(call);
            } else if (wrong > 1) {
                together.add(call);
            }
        } else if (parts[at].equals("true") || parts[at].equals("false")) {
            extend(parts, at + 1, call + " " + parts[at], wrong, alone, together);
        } else {
            for (int value : taken(parts[at])) {
                extend(parts, at + 1, call + " " + value, wrong, alone, together);
            }
            for (int value : refused(parts[at])) {
                extend(parts, at + 1, call + " " + value, wrong + 1, alone, together);
            }
        }
    }

    /** The last arguments that are taken by a call that only asks. */
    private void take(String... lines) {
        b.kept(Networks.RING, BEFORE, lines);
    }

    /** The last arguments that are taken by an operation, each on a new object. */
    private void operate(String... lines) {
        for (String line : lines) {
            b.runAfter(Networks.RING, BEFORE, line);
        }
    }

    private void setupCalls() {
        refuse("Promise 3", "INVALID if n is out of range.", "truncate length");
        operate("truncate 0 = 8", "truncate 8 = 0");
        refuse("Promise 10", "INVALID for an invalid argument.", "rate format level");
        take("rate 0 1 = 2", "rate 0 3 = 5", "rate 2 1 = 3", "rate 2 3 = 9");
        refuse("Promise 11", "INVALID for an invalid argument.", "linkBetween node node");
        take("linkBetween 0 0 = NOT_FOUND", "linkBetween 0 5 = NOT_FOUND", "linkBetween 5 0 = NOT_FOUND", "linkBetween 5 5 = NOT_FOUND",
                "linkBetween 0 1 = 0", "linkBetween 5 3 = 5", "linkBetween 3 5 = 5");
        refuse("Promise 12", "INVALID for an invalid argument.", "capacity link");
        take("capacity 0 = 10", "capacity 5 = 4");
        refuse("Promise 13", "false otherwise, also for an invalid argument.", "isOpen link");
        take("isOpen 0 = true", "isOpen 5 = true", "isOpen 3 = false");
    }

    private void operations() {
        refuse("Promise 14", "INVALID for an invalid argument;", "addReceiver node format level");
        operate("addReceiver 0 0 1 = 4", "addReceiver 0 0 3 = 4", "addReceiver 0 2 1 = 4", "addReceiver 5 0 1 = 4", "addReceiver 5 2 3 = 4");
        refuse("Promise 15", "INVALID for an invalid argument.", "leave receiver");
        operate("leave 0 = 3", "leave 2 = 0");
        refuse("Promise 16", "INVALID for an invalid argument;", "setWanted receiver level");
        operate("setWanted 0 1 = 1", "setWanted 2 1 = 0", "setWanted 0 2 = 2", "setWanted 1 3 = 1");
        take("setWanted 0 3 = NOT_FOUND", "setWanted 2 3 = NOT_FOUND");
        refuse("Promise 17", "INVALID for an invalid argument;", "raise receiver");
        take("raise 0 = NOT_FOUND", "raise 1 = NOT_FOUND", "raise 2 = NOT_FOUND");
        refuse("Promise 18", "false for an invalid argument, if it is there already, or if the tree would not be valid then.", "place node made");
        operate("place 0 1 = true", "place 0 2 = true", "place 5 1 = true", "place 5 2 = true");
        refuse("Promise 19", "INVALID for an invalid argument;", "remove node made");
        take("remove 0 1 = NOT_FOUND", "remove 0 2 = NOT_FOUND", "remove 5 1 = NOT_FOUND", "remove 5 2 = NOT_FOUND");
        operate("remove 2 1 = 1");
        refuse("Promise 20", "INVALID for an invalid argument;", "setCapacity link capacity");
        operate("setCapacity 0 0 = 4", "setCapacity 0 9999 = 0", "setCapacity 5 0 = 0", "setCapacity 5 9999 = 0");
        refuse("Promise 21", "INVALID for an invalid argument;", "setOpen link true");
        refuse("Promise 21", "INVALID for an invalid argument;", "setOpen link false");
        take("setOpen 0 true = NOT_FOUND", "setOpen 5 true = NOT_FOUND", "setOpen 3 false = NOT_FOUND");
        operate("setOpen 0 false = 4", "setOpen 5 false = 0", "setOpen 3 true = 0");
    }

    private void receiverCalls() {
        refuse("Promise 26", "false otherwise, also if there is no receiver of that number.", "hasLeft number");
        take("hasLeft 0 = false", "hasLeft 2 = false", "hasLeft 3 = true");
        refuse("Promise 27", "INVALID if there is no receiver of that number.", "level number");
        take("level 0 = 3", "level 2 = 0", "level 3 = 0");
        refuse("Promise 28", "INVALID for an invalid argument.", "wanted receiver");
        take("wanted 0 = 3", "wanted 1 = 2", "wanted 2 = 3");
        refuse("Promise 29", "INVALID for an invalid argument.", "servedAt receiver");
        take("servedAt 0 = NOT_FOUND", "servedAt 1 = 2", "servedAt 2 = NOT_FOUND");
        refuse("Promise 30", "INVALID for an invalid receiver or a negative k.", "pathNode receiver index");
        take("pathNode 0 0 = 4", "pathNode 0 3 = 0", "pathNode 0 4 = NOT_FOUND", "pathNode 0 2147483647 = NOT_FOUND", "pathNode 2 0 = NOT_FOUND");
        refuse("Promise 31", "INVALID for an invalid argument.", "bottleneck receiver");
        take("bottleneck 0 = 4", "bottleneck 1 = 4", "bottleneck 2 = NOT_FOUND");
        refuse("Promise 32", "INVALID for an invalid argument.", "shared receiver receiver");
        take("shared 0 0 = 3", "shared 0 1 = 3", "shared 0 2 = 0", "shared 2 0 = 0", "shared 2 2 = 0");
    }

    private void treeCalls() {
        refuse("Promise 34", "false otherwise, also for an invalid argument.", "isInTree node");
        take("isInTree 0 = true", "isInTree 4 = true", "isInTree 5 = false");
        refuse("Promise 35", "INVALID for an invalid argument.", "parent node");
        take("parent 0 = NOT_FOUND", "parent 4 = 2", "parent 5 = NOT_FOUND");
        refuse("Promise 36", "INVALID for an invalid argument.", "delay node");
        take("delay 0 = 0", "delay 4 = 7", "delay 5 = NOT_FOUND");
        refuse("Promise 37", "INVALID for an invalid argument.", "below node");
        take("below 0 = 3", "below 4 = 0", "below 5 = NOT_FOUND");
        refuse("Promise 38", "INVALID for an invalid argument.", "demand node format");
        take("demand 0 0 = 3", "demand 0 2 = 0", "demand 5 0 = 0", "demand 5 2 = 0", "demand 4 1 = 1");
        refuse("Promise 39", "INVALID for an invalid argument.", "linkLoad link");
        take("linkLoad 0 = 5", "linkLoad 4 = 6", "linkLoad 5 = 0");
        refuse("Promise 40", "INVALID for an invalid argument.", "cpuLoad node");
        take("cpuLoad 0 = 0", "cpuLoad 2 = 3", "cpuLoad 5 = 0");
        refuse("Promise 41", "false otherwise, also for an invalid argument.", "isPlaced node format");
        take("isPlaced 0 0 = false", "isPlaced 0 2 = false", "isPlaced 5 0 = false", "isPlaced 5 2 = false", "isPlaced 2 1 = true");
        refuse("Promise 42", "INVALID for any other what.", "total what");
        take("total 0 = 4", "total 1 = 8", "total 2 = 16", "total 3 = 4", "total 4 = 1", "total 5 = 7", "total 6 = 1", "total 7 = 3");
        refuse("Promise 43", "INVALID for a negative rank;", "busiest index");
        take("busiest 0 = 4", "busiest 1 = 1", "busiest 2 = 0", "busiest 5 = 5", "busiest 6 = NOT_FOUND", "busiest 2147483647 = NOT_FOUND");
    }

    private void questions() {
        refuse("Promise 44", "INVALID for an invalid argument.", "offer node format");
        take("offer 0 0 = 3", "offer 0 2 = 0", "offer 5 0 = 2", "offer 5 2 = 0", "offer 4 1 = 1");
        refuse("Promise 45", "INVALID for an invalid node, format or level or a negative k.", "graftNode node format level index");
        take("graftNode 0 0 1 0 = NOT_FOUND", "graftNode 5 0 1 0 = 0", "graftNode 5 0 3 0 = NOT_FOUND", "graftNode 5 2 1 2 = 5", "graftNode 5 2 3 0 = NOT_FOUND",
                "graftNode 5 0 1 2147483647 = NOT_FOUND");
        refuse("Promise 46", "INVALID for an invalid argument.", "gain node made");
        take("gain 0 1 = 0", "gain 0 2 = 0", "gain 5 1 = 0", "gain 5 2 = 0", "gain 2 1 = NOT_FOUND");
        refuse("Promise 47", "INVALID for an invalid argument.", "bestPlace made");
        take("bestPlace 1 = 0", "bestPlace 2 = 0");
        refuse("Promise 48", "INVALID for an invalid argument.", "loss link");
        take("loss 0 = 4", "loss 5 = 0", "loss 3 = 0", "criticalLink = 0");
        refuse("Promise 51", "INVALID for a negative i;", "reportByte index");
        take("reportByte 0 = 49", "reportByte 23 = 10", "reportByte 24 = NOT_FOUND", "reportByte 2147483647 = NOT_FOUND", "reportLength = 24");
        b.says("Section 7", "The constructor and the methods follow, a promise each: the signature, then what it does.");
        b.kept(Networks.RING, BEFORE, "nodes = 6", "links = 6", "formats = 3", "layers = 3", "errorPosition = NOT_FOUND", "tapeLength = 8", "receivers = 4",
                "neediest = 2", "levels = 3100", "report = 1 0 300|2 1 300|4 2 310|");
    }
}
