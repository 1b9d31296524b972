/** Promises 25 to 51: receivers, the tree, questions and the report. */
public final class AnswersTest {
    private static final Checks CHECKS = new Checks("AnswersTest");

    public static void main(String[] args) {
        receivers();
        paths();
        servedAt();
        bottleneck();
        shared();
        neediest();
        tree();
        demands();
        totals();
        busiest();
        offer();
        graftNode();
        gain();
        bestPlace();
        loss();
        criticalLink();
        questionsChangeNothing();
        report();
        CHECKS.end();
    }

    private static void receivers() {
        Script.run(CHECKS, "promises 25 to 28", Networks.RING,
                "receivers = 0", "hasLeft 0 = false", "level 0 = INVALID", "wanted 0 = INVALID",
                "addReceiver 4 0 3 = 0", "addReceiver 5 0 3 = 1", "receivers = 2", "level 0 = 3", "level 1 = 2", "level 2 = INVALID",
                "level -1 = INVALID", "wanted 0 = 3", "wanted 1 = 3", "wanted 2 = INVALID", "wanted -1 = INVALID",
                "hasLeft 0 = false", "leave 0 = 3", "hasLeft 0 = true", "hasLeft 1 = false", "hasLeft 2 = false", "hasLeft -1 = false",
                "level 0 = 0", "wanted 0 = INVALID", "receivers = 2", "undo = 2", "hasLeft 0 = false", "undo = 1", "receivers = 1",
                "level 1 = INVALID");
    }

    private static void paths() {
        Script.run(CHECKS, "promise 30", Networks.RING,
                "addReceiver 4 0 3 = 0", "addReceiver 0 0 3 = 1", "addReceiver 4 1 3 = 2",
                "pathNode 0 0 = 4", "pathNode 0 1 = 2", "pathNode 0 2 = 1", "pathNode 0 3 = 0", "pathNode 0 4 = NOT_FOUND",
                "pathNode 0 5 = NOT_FOUND", "pathNode 0 2147483647 = NOT_FOUND", "pathNode 0 -1 = INVALID", "pathNode 1 0 = 0",
                "pathNode 1 1 = NOT_FOUND", "pathNode 2 0 = NOT_FOUND", "pathNode 2 -1 = INVALID", "pathNode 3 0 = INVALID",
                "pathNode -1 0 = INVALID", "leave 0 = 3", "pathNode 0 0 = INVALID");
    }

    private static void servedAt() {
        Script.run(CHECKS, "promise 29", Networks.CHAIN,
                "addReceiver 2 1 1 = 0", "servedAt 0 = NOT_FOUND", "place 0 1 = true", "raise 0 = 1", "servedAt 0 = 0",
                "place 1 2 = true", "servedAt 0 = 0", "place 1 1 = true", "servedAt 0 = 1", "place 2 1 = true", "servedAt 0 = 2",
                "addReceiver 2 0 1 = 1", "servedAt 1 = NOT_FOUND", "addReceiver 1 1 1 = 2", "servedAt 2 = 1", "servedAt 3 = INVALID",
                "servedAt -1 = INVALID", "leave 0 = 1", "servedAt 0 = INVALID");
    }

    private static void bottleneck() {
        Script.run(CHECKS, "promise 31", Networks.RING,
                // left are 5, 1 and 1: the smaller link of two
                "addReceiver 4 0 3 = 0", "bottleneck 0 = 1", "setCapacity 1 9 = 0", "bottleneck 0 = 4", "setCapacity 0 5 = 0", "bottleneck 0 = 0",
                "addReceiver 0 0 3 = 1", "bottleneck 1 = NOT_FOUND", "addReceiver 4 1 1 = 2", "bottleneck 2 = NOT_FOUND",
                "bottleneck 3 = INVALID", "bottleneck -1 = INVALID", "leave 0 = 3", "bottleneck 0 = INVALID");
        Script.run(CHECKS, "promise 31", "nodes 3;link 1 2 capacity 3 delay 1;link 0 1 capacity 3 delay 1;native 1;",
                "addReceiver 2 0 1 = 0", "bottleneck 0 = 0", "setCapacity 0 4 = 0", "bottleneck 0 = 1");
        // what is left counts, not the capacity; and a try that failed before counts for nothing
        Script.run(CHECKS, "promise 31", "nodes 4;link 0 1 capacity 10 delay 1;link 1 2 capacity 5 delay 1;link 1 3 capacity 9 delay 1;native 1 5 4 3;",
                "addReceiver 2 0 1 = 0", "addReceiver 3 0 4 = 1", "levels = 12", "bottleneck 0 = 0", "addReceiver 1 0 3 = 2", "levels = 123",
                "bottleneck 0 = 0", "raise 1 = NOT_FOUND", "bottleneck 1 = 0", "leave 2 = 3", "raise 1 = NOT_FOUND", "bottleneck 1 = 2",
                "bottleneck 0 = 0", "setCapacity 0 11 = 0", "offer 1 0 = 3", "bottleneck 0 = 1");
    }

    private static void shared() {
        Script.run(CHECKS, "promise 32", Networks.RING,
                "addReceiver 4 0 3 = 0", "addReceiver 2 0 1 = 1", "addReceiver 5 0 1 = 2", "addReceiver 0 0 1 = 3", "addReceiver 4 1 1 = 4",
                "addReceiver 1 0 1 = 5", "shared 0 0 = 3", "shared 0 1 = 2", "shared 1 0 = 2", "shared 0 2 = 0", "shared 0 3 = 0",
                "shared 3 3 = 0", "shared 0 4 = 0", "shared 4 4 = 0", "shared 4 0 = 0", "shared 5 0 = 1", "shared 5 1 = 1",
                "shared 0 6 = INVALID", "shared 6 0 = INVALID", "shared -1 0 = INVALID", "shared 0 -1 = INVALID",
                "leave 1 = 1", "shared 0 1 = INVALID", "shared 1 0 = INVALID");
    }

    private static void neediest() {
        Script.run(CHECKS, "promise 33", Networks.RING,
                "addReceiver 5 0 3 = 0", "neediest = 0", "addReceiver 4 0 3 = 1", "neediest = 0", "addReceiver 5 0 3 = 2", "neediest = 0",
                "leave 0 = 2", "neediest = 2");
        Script.run(CHECKS, "promise 33", Networks.RING,
                "neediest = NOT_FOUND", "addReceiver 4 0 3 = 0", "neediest = NOT_FOUND", "addReceiver 5 0 3 = 1", "neediest = 1",
                "addReceiver 4 1 2 = 2", "neediest = 2", "addReceiver 4 2 2 = 3", "neediest = 2", "addReceiver 4 2 3 = 4", "neediest = 4",
                "leave 4 = 0", "neediest = 2", "leave 2 = 0", "neediest = 3", "leave 3 = 0", "neediest = 1", "leave 1 = 2", "neediest = NOT_FOUND");
    }

    private static void tree() {
        Script.run(CHECKS, "promises 34 to 37", Networks.RING,
                "isInTree 0 = true", "isInTree 1 = false", "isInTree 6 = false", "isInTree -1 = false", "parent 0 = NOT_FOUND",
                "parent 1 = NOT_FOUND", "parent 6 = INVALID", "parent -1 = INVALID", "delay 0 = 0", "delay 1 = NOT_FOUND", "delay 6 = INVALID",
                "delay -1 = INVALID", "below 0 = 0", "below 1 = NOT_FOUND", "below 6 = INVALID", "below -1 = INVALID",
                "addReceiver 4 0 3 = 0", "addReceiver 5 0 2 = 1", "isInTree 4 = true", "isInTree 2 = true", "isInTree 5 = true",
                "parent 0 = NOT_FOUND", "parent 1 = 0", "parent 2 = 1", "parent 4 = 2", "parent 3 = 0", "parent 5 = 3",
                "delay 0 = 0", "delay 1 = 2", "delay 2 = 4", "delay 4 = 7", "delay 3 = 4", "delay 5 = 9",
                "below 0 = 5", "below 1 = 2", "below 2 = 1", "below 4 = 0", "below 3 = 1", "leave 0 = 3", "below 0 = 2", "below 1 = NOT_FOUND",
                "delay 4 = NOT_FOUND", "parent 4 = NOT_FOUND", "isInTree 4 = false");
    }

    private static void demands() {
        Script.run(CHECKS, "promises 38 to 41", Networks.CHAIN,
                "place 0 1 = true", "place 1 2 = true", "addReceiver 2 1 4 = 0", "addReceiver 2 2 3 = 1", "addReceiver 1 0 2 = 2",
                "addReceiver 1 1 1 = 3", "levels = 4321",
                "demand 2 0 = 0", "demand 2 1 = 4", "demand 2 2 = 3", "demand 1 0 = 3", "demand 1 1 = 4", "demand 1 2 = 3",
                "demand 0 0 = 4", "demand 0 1 = 4", "demand 0 2 = 0", "linkLoad 1 = 17", "linkLoad 0 = 11",
                "cpuLoad 0 = 8", "cpuLoad 1 = 3", "cpuLoad 2 = 0",
                "demand 3 0 = INVALID", "demand -1 0 = INVALID", "demand 0 3 = INVALID", "demand 0 -1 = INVALID",
                "linkLoad 2 = INVALID", "linkLoad -1 = INVALID", "cpuLoad 3 = INVALID", "cpuLoad -1 = INVALID",
                "isPlaced 0 1 = true", "isPlaced 0 2 = false", "isPlaced 1 2 = true", "isPlaced 1 1 = false", "isPlaced 0 0 = false",
                "isPlaced 3 1 = false", "isPlaced -1 1 = false", "isPlaced 0 3 = false", "isPlaced 0 -1 = false",
                "leave 0 = 4", "leave 1 = 3", "leave 2 = 2", "demand 2 1 = 0", "demand 1 0 = 0", "demand 1 1 = 1", "demand 0 0 = 1",
                "linkLoad 0 = 2", "linkLoad 1 = 0", "cpuLoad 0 = 2", "cpuLoad 1 = 0", "remove 1 2 = 0", "isPlaced 1 2 = false");
        // a try that failed leaves no load behind
        Script.run(CHECKS, "promises 38 to 42", Networks.CHAIN,
                "place 1 1 = true", "addReceiver 2 1 4 = 0", "levels = 3", "raise 0 = NOT_FOUND", "cpuLoad 1 = 6", "raise 0 = NOT_FOUND",
                "linkLoad 1 = 6", "raise 0 = NOT_FOUND", "demand 1 1 = 3", "raise 0 = NOT_FOUND", "total 2 = 9", "raise 0 = NOT_FOUND",
                "reportByte 12 = 48", "raise 0 = NOT_FOUND", "reportByte 4 = 51");
        // a converter outside the tree has no load, and one processor makes two formats
        Script.run(CHECKS, "promises 38 to 41", Networks.CHAIN,
                "place 2 1 = true", "cpuLoad 2 = 0", "demand 2 1 = 0", "place 0 1 = true", "place 0 2 = true",
                "addReceiver 1 1 3 = 0", "addReceiver 1 2 4 = 1", "cpuLoad 0 = 10", "linkLoad 0 = 18", "demand 0 0 = 4",
                "addReceiver 1 1 4 = 2", "levels = 344", "cpuLoad 0 = 12", "addReceiver 2 1 1 = 3", "servedAt 3 = 2", "cpuLoad 2 = 2",
                "linkLoad 1 = 1", "demand 1 0 = 1", "linkLoad 0 = 21");
    }

    private static void totals() {
        Script.run(CHECKS, "promise 42", Networks.RING,
                "total 0 = 0", "total 1 = 0", "total 2 = 0", "total 3 = 1", "total 4 = 0", "total 5 = 0", "total 6 = 0", "total 7 = 0",
                "total 8 = INVALID", "total -1 = INVALID",
                "addReceiver 4 0 3 = 0", "addReceiver 5 0 3 = 1", "addReceiver 2 1 2 = 2", "addReceiver 0 0 1 = 3", "place 2 2 = true", "place 1 1 = true",
                "total 0 = 6", "total 1 = 9", "total 2 = 23", "total 3 = 6", "total 4 = 2", "total 5 = 9", "total 6 = 2", "total 7 = 4",
                "leave 1 = 2", "total 0 = 4", "total 1 = 6", "total 2 = 15", "total 3 = 4", "total 5 = 7", "total 6 = 2", "total 7 = 3",
                "remove 2 2 = 0", "total 4 = 1");
    }

    private static void busiest() {
        // utilisations: 500, 833, 500, 0, 833, 1000
        Script.run(CHECKS, "promise 43", Networks.RING,
                "busiest 0 = 0", "busiest 5 = 5", "addReceiver 4 0 3 = 0", "addReceiver 5 0 3 = 1",
                "busiest 0 = 5", "busiest 1 = 1", "busiest 2 = 4", "busiest 3 = 0", "busiest 4 = 2", "busiest 5 = 3",
                "busiest 6 = NOT_FOUND", "busiest 2147483647 = NOT_FOUND", "busiest -1 = INVALID",
                // rounded down both are 500, so that the smaller number comes first
                "setCapacity 2 7 = 0", "busiest 3 = 2", "setCapacity 3 0 = 0", "busiest 5 = 3", "leave 1 = 2", "busiest 5 = 5", "busiest 3 = 2");
        Script.run(CHECKS, "promise 43", "nodes 3;link 0 1 capacity 2001 delay 1;link 0 2 capacity 2000 delay 1;native 2;",
                "addReceiver 1 0 1 = 0", "addReceiver 2 0 1 = 1", "busiest 0 = 1", "setCapacity 0 1999 = 0", "busiest 0 = 0",
                "setCapacity 1 1998 = 0", "busiest 0 = 0", "busiest 1 = 1");
        Script.run(CHECKS, "promise 43", "nodes 3;link 0 1 capacity 2 delay 1;link 0 2 capacity 1 delay 1;native 1 1;",
                "addReceiver 1 0 1 = 0", "addReceiver 2 0 2 = 1", "levels = 11", "busiest 0 = 1", "leave 1 = 1", "setCapacity 0 1 = 0",
                "setWanted 0 2 = 1", "addReceiver 2 0 1 = 2", "busiest 0 = 0", "leave 0 = 1", "raise 2 = NOT_FOUND", "busiest 0 = 1",
                "setWanted 2 2 = 1", "setCapacity 1 2 = 0", "addReceiver 1 0 1 = 3", "busiest 0 = 0", "offer 2 0 = 2", "busiest 0 = 0");
        Script.run(CHECKS, "promise 43", "", "busiest 0 = NOT_FOUND", "busiest -1 = INVALID");
    }

    private static void offer() {
        Script.run(CHECKS, "promise 44", Networks.RING,
                "offer 4 0 = 3", "offer 5 0 = 2", "offer 0 0 = 3", "offer 4 1 = 0", "offer -1 0 = INVALID", "offer 6 0 = INVALID",
                "offer 0 3 = INVALID", "offer 0 -1 = INVALID", "receivers = 0", "isInTree 4 = false", "undo = INVALID",
                "place 2 1 = true", "offer 4 1 = 2", "addReceiver 4 0 3 = 0", "offer 4 1 = 1", "offer 2 1 = 2", "levels = 3", "report = 1 0 300|2 1 300|4 2 300|");
    }

    private static void graftNode() {
        Script.run(CHECKS, "promise 45", Networks.RING,
                "graftNode 4 0 3 0 = 0", "graftNode 4 0 3 1 = 1", "graftNode 4 0 3 2 = 2", "graftNode 4 0 3 3 = 4", "graftNode 4 0 3 4 = NOT_FOUND",
                "graftNode 4 0 3 2147483647 = NOT_FOUND", "graftNode 4 0 3 -1 = INVALID", "graftNode 6 0 1 0 = INVALID", "graftNode -1 0 1 0 = INVALID",
                "graftNode 4 3 1 0 = INVALID", "graftNode 4 -1 1 0 = INVALID", "graftNode 4 0 0 0 = INVALID", "graftNode 4 0 4 0 = INVALID",
                "graftNode 0 0 1 0 = NOT_FOUND", "graftNode 0 0 1 -1 = INVALID", "graftNode 5 0 2 1 = 3", "graftNode 5 0 3 0 = NOT_FOUND",
                // the path does not ask for converters, only for the rate of the format
                "graftNode 4 2 2 1 = 1", "graftNode 4 2 3 0 = NOT_FOUND", "graftNode 3 2 2 1 = 3", "graftNode 3 2 3 0 = NOT_FOUND",
                "setOpen 1 false = 0", "graftNode 4 0 1 1 = 3", "isInTree 4 = false",
                "addReceiver 2 0 1 = 0", "graftNode 4 0 1 0 = 2", "graftNode 4 0 1 1 = 4", "graftNode 4 0 1 2 = NOT_FOUND", "graftNode 2 0 1 0 = NOT_FOUND",
                "graftNode 1 0 1 0 = 0", "graftNode 1 0 1 1 = 1");
        Script.run(CHECKS, "promise 45", Networks.TIES,
                "graftNode 3 0 1 1 = 3", "graftNode 3 0 2 1 = 1", "graftNode 3 0 2 2 = 3", "graftNode 5 0 1 0 = NOT_FOUND",
                "setOpen 4 false = 0", "graftNode 3 0 2 1 = 2", "setCapacity 3 1 = 0", "graftNode 3 0 2 1 = 4", "graftNode 1 0 2 1 = 4",
                "graftNode 1 0 2 2 = 3", "graftNode 1 0 2 3 = 1");
    }

    private static void gain() {
        Script.run(CHECKS, "promise 46", Networks.RING,
                "addReceiver 4 0 3 = 0", "addReceiver 2 1 3 = 1", "addReceiver 4 1 2 = 2", "levels = 300",
                "gain 0 0 = INVALID", "gain 6 1 = INVALID", "gain -1 1 = INVALID", "gain 0 3 = INVALID",
                // node 2 makes two levels, one of which goes on to node 4; behind node 1 the link carries one level
                "gain 0 1 = 0", "gain 2 1 = 3", "gain 1 1 = 2", "gain 4 1 = 0", "gain 5 1 = 0", "levels = 300", "isPlaced 2 1 = false", "undo = 2");
        Script.run(CHECKS, "promise 46", Networks.CHAIN,
                "place 0 1 = true", "gain 0 1 = NOT_FOUND", "addReceiver 2 1 4 = 0", "gain 1 1 = NOT_FOUND", "gain 1 2 = 0", "place 1 2 = true",
                "gain 1 2 = NOT_FOUND", "isPlaced 1 1 = false", "levels = 4", "addReceiver 2 2 4 = 1", "levels = 44", "gain 2 2 = NOT_FOUND",
                "setWanted 1 3 = 3", "gain 2 2 = 0", "total 4 = 2",
                // what improve() would win without a converter counts, too
                "setWanted 1 4 = 3", "gain 2 1 = NOT_FOUND", "gain 0 2 = 1", "levels = 43");
    }

    private static void bestPlace() {
        Script.run(CHECKS, "promise 47", Networks.RING,
                "addReceiver 4 0 3 = 0", "addReceiver 2 1 3 = 1", "addReceiver 4 1 2 = 2", "bestPlace 1 = 2", "bestPlace 2 = 0",
                "bestPlace 0 = INVALID", "bestPlace 3 = INVALID", "bestPlace -1 = INVALID", "total 4 = 0", "levels = 300",
                "place 2 1 = true", "improve = 3", "bestPlace 1 = 0");
        Script.run(CHECKS, "promise 47", "nodes 2;native 1;format 1 rates 1;",
                "bestPlace 1 = 0", "place 0 1 = true", "bestPlace 1 = 1", "place 1 1 = true", "bestPlace 1 = NOT_FOUND", "bestPlace 0 = INVALID");
        Script.run(CHECKS, "promise 47", "", "bestPlace 0 = INVALID", "bestPlace 1 = INVALID");
    }

    private static void loss() {
        Script.run(CHECKS, "promise 48", Networks.RING,
                "loss 0 = 0", "loss 6 = INVALID", "loss -1 = INVALID", "addReceiver 4 0 3 = 0", "addReceiver 5 0 2 = 1",
                "loss 0 = 0", "loss 1 = 0", "loss 2 = 0", "loss 3 = 0", "loss 4 = 3", "loss 5 = 2", "isOpen 4 = true", "levels = 32", "parent 4 = 2",
                "setOpen 4 false = 3", "loss 4 = 0", "setOpen 0 false = 0", "setOpen 4 true = 0", "improve = 3", "levels = 32", "loss 2 = 5", "loss 0 = 0");
    }

    private static void criticalLink() {
        Script.run(CHECKS, "promise 49", Networks.RING,
                "criticalLink = 0", "addReceiver 5 0 2 = 0", "criticalLink = 5", "addReceiver 4 0 3 = 1", "criticalLink = 4",
                "setOpen 4 false = 3", "criticalLink = 5", "setOpen 5 false = 2", "criticalLink = 0", "setOpen 0 false = 0", "criticalLink = 1",
                "setOpen 1 false = 0", "setOpen 2 false = 0", "criticalLink = 3", "setOpen 3 false = 0", "criticalLink = NOT_FOUND");
        // negative losses are less than none
        Script.run(CHECKS, "promise 49", "nodes 3;link 0 1 capacity 2 delay 1;link 1 2 capacity 2 delay 1;link 0 2 capacity 9 delay 9;native 1 1;",
                "addReceiver 2 0 2 = 0", "setCapacity 1 1 = 1", "loss 0 = -1", "loss 1 = -1", "loss 2 = 0", "criticalLink = 2",
                "setOpen 2 false = 0", "criticalLink = 0");
        Script.run(CHECKS, "promise 49", "nodes 4;link 0 1 capacity 2 delay 1;link 1 2 capacity 1 delay 1;link 0 3 capacity 2 delay 8;link 3 2 capacity 2 delay 1;native 1 1;",
                "addReceiver 2 0 2 = 0", "parent 2 = 3", "leave 0 = 2", "addReceiver 2 0 1 = 1", "parent 2 = 1", "setWanted 1 2 = 1", "loss 1 = -1",
                "setOpen 2 false = 0", "loss 0 = 1", "criticalLink = 0");
        Script.run(CHECKS, "promise 49", "", "criticalLink = NOT_FOUND");
    }

    private static void questionsChangeNothing() {
        String[] state = {"report = 1 0 300|2 1 300|3 0 200|4 2 310|5 3 200|", "levels = 3221", "total 4 = 1", "capacity 5 = 4", "total 2 = 24",
            "receivers = 4", "total 1 = 11"};
        LayeredMulticast x = Script.run(CHECKS, "promises 44 to 49", Networks.RING,
                "place 2 1 = true", "addReceiver 4 0 3 = 0", "addReceiver 5 0 3 = 1", "addReceiver 2 1 3 = 2", "addReceiver 4 1 2 = 3");
        Script.more(CHECKS, "promises 44 to 49", x, state);
        Script.more(CHECKS, "promises 44 to 49", x, "offer 1 0 = 3", "offer 1 1 = 0", "graftNode 4 0 1 0 = NOT_FOUND", "gain 1 1 = 0",
                "bestPlace 1 = 0", "bestPlace 2 = 0", "loss 1 = 0", "loss 4 = 4", "criticalLink = 4", "gain 2 1 = NOT_FOUND");
        Script.more(CHECKS, "promises 44 to 49", x, state);
        Script.more(CHECKS, "promises 44 to 49", x, "undo = 4", "undo = 3", "undo = 2", "undo = 1", "undo = 0", "undo = INVALID");
    }

    private static void report() {
        Script.run(CHECKS, "promise 51", Networks.CHAIN,
                "addReceiver 1 0 4 = 0", "reportByte 4 = 52", "leave 0 = 4", "reportByte 0 = NOT_FOUND", "undo = 1", "reportByte 0 = 49");
        LayeredMulticast x = Script.run(CHECKS, "promises 50, 51", Networks.CHAIN,
                "reportLength = 0", "reportByte 0 = NOT_FOUND", "reportByte -1 = INVALID", "addReceiver 0 0 4 = 0", "reportLength = 0",
                "place 0 1 = true", "place 1 2 = true", "addReceiver 2 1 4 = 1", "addReceiver 2 2 3 = 2", "addReceiver 1 0 2 = 3",
                "report = 1 0 340|2 1 043|", "reportLength = 16", "reportByte 0 = 49", "reportByte 1 = 32", "reportByte 2 = 48",
                "reportByte 3 = 32", "reportByte 4 = 51", "reportByte 5 = 52", "reportByte 6 = 48", "reportByte 7 = 10", "reportByte 8 = 50",
                "reportByte 15 = 10", "reportByte 16 = NOT_FOUND", "reportByte 2147483647 = NOT_FOUND", "reportByte -1 = INVALID",
                "reportByte -2147483648 = INVALID");
        StringBuilder text = new StringBuilder("nodes 16;");
        StringBuilder due = new StringBuilder();
        for (int node = 1; node < 16; node++) {
            text.append("link ").append(node - 1).append(' ').append(node).append(" capacity 9 delay 1;");
            due.append(node).append(' ').append(node - 1).append(" 1000|");
        }
        text.append("native 1;format 1 rates 1;format 1 rates 1;format 1 rates 1;");
        x = Script.run(CHECKS, "promises 50, 51", text.toString(), "addReceiver 15 0 1 = 0", "below 0 = 15", "delay 15 = 15", "reportLength = 146",
                "pathNode 0 15 = 0", "pathNode 0 14 = 1", "pathNode 0 16 = NOT_FOUND");
        CHECKS.due("promise 51: report", Checks.report(x).replace('\n', '|'), due.toString());
    }
}
