/** Promises 14 to 24: the operations and their undoing. */
public final class OperationsTest {
    private static final Checks CHECKS = new Checks("OperationsTest");

    public static void main(String[] args) {
        addReceiver();
        graftPaths();
        fullHouse();
        leave();
        setWanted();
        raise();
        place();
        remove();
        removeLowersByProcessor();
        orderOfViolations();
        setCapacity();
        setOpen();
        setOpenMayGain();
        improve();
        rebuild();
        undoEachKind();
        undoTheLatestTen();
        CHECKS.end();
    }

    private static void addReceiver() {
        Script.run(CHECKS, "promise 14", Networks.RING,
                "addReceiver -1 0 1 = INVALID", "addReceiver 6 0 1 = INVALID", "addReceiver 1 -1 1 = INVALID",
                "addReceiver 1 3 1 = INVALID", "addReceiver 1 0 0 = INVALID", "addReceiver 1 0 4 = INVALID",
                "receivers = 0", "undo = INVALID",
                "addReceiver 4 0 3 = 0", "levels = 3", "report = 1 0 300|2 1 300|4 2 300|",
                // the link to node 5 carries two levels only
                "addReceiver 5 0 3 = 1", "levels = 32", "report = 1 0 300|2 1 300|3 0 200|4 2 300|5 3 200|",
                // nobody makes format 1
                "addReceiver 2 1 3 = 2", "levels = 320", "place 2 1 = true",
                // the processor of node 2 makes two levels
                "addReceiver 2 1 3 = 3", "levels = 3202",
                // and its link to node 4 carries only one more
                "addReceiver 4 1 3 = 4", "levels = 32021", "linkLoad 4 = 6",
                "addReceiver 0 0 2 = 5", "levels = 320212", "receivers = 6");
        // a try that fails leaves no nodes behind
        Script.run(CHECKS, "promise 14", Networks.RING,
                "addReceiver 4 1 3 = 0", "levels = 0", "report = ", "total 3 = 1");
        // the wide way is long, and only the first level goes the short one
        Script.run(CHECKS, "promise 14", "nodes 3;link 0 1 capacity 2 delay 1;link 0 2 capacity 9 delay 9;link 2 1 capacity 9 delay 9;native 2 3;",
                "addReceiver 1 0 2 = 0", "levels = 2", "parent 1 = 2", "leave 0 = 2", "addReceiver 1 0 1 = 1",
                "parent 1 = 0", "addReceiver 1 0 2 = 2", "levels = 011");
    }

    private static void graftPaths() {
        // equal delays: fewest links, then the least nodes
        Script.run(CHECKS, "promise 14", Networks.TIES,
                "addReceiver 3 0 1 = 0", "parent 3 = 0", "delay 3 = 4", "leave 0 = 1",
                "addReceiver 3 0 2 = 1", "parent 3 = 1", "parent 1 = 0", "delay 3 = 4", "leave 1 = 2",
                "addReceiver 2 0 1 = 2", "addReceiver 3 0 2 = 3", "parent 3 = 2", "levels = 0012", "leave 3 = 2",
                "addReceiver 4 0 1 = 4", "addReceiver 3 0 2 = 5", "parent 3 = 2", "leave 5 = 2",
                "addReceiver 1 0 1 = 6", "addReceiver 3 0 1 = 7", "parent 3 = 0", "leave 7 = 1",
                "setOpen 6 false = 0", "addReceiver 3 0 1 = 8", "parent 3 = 1", "addReceiver 5 0 2 = 9", "level 9 = 0");
        // a shorter way from a far tree node loses against a longer one from a near node
        Script.run(CHECKS, "promise 14", "nodes 4;link 0 1 capacity 9 delay 9;link 1 2 capacity 9 delay 1;link 0 3 capacity 9 delay 5;link 3 2 capacity 9 delay 4;native 1;",
                "addReceiver 1 0 1 = 0", "addReceiver 2 0 1 = 1", "parent 2 = 3", "delay 2 = 9");
        // a graft path keeps out of the tree: its nodes hang where they hung
        Script.run(CHECKS, "promise 14", "nodes 4;link 0 1 capacity 9 delay 5;link 1 3 capacity 9 delay 1;link 0 2 capacity 1 delay 1;link 2 1 capacity 9 delay 1;native 1 1;",
                "addReceiver 1 0 2 = 0", "parent 1 = 0", "addReceiver 2 0 1 = 1", "parent 2 = 0",
                "addReceiver 3 0 1 = 2", "parent 3 = 1", "delay 3 = 6", "report = 1 0 2|2 0 1|3 1 1|");
    }

    private static void fullHouse() {
        LayeredMulticast x = Checks.loaded(Networks.CHAIN);
        for (int i = 0; i < 20; i++) {
            CHECKS.due("promise 14: addReceiver", x.addReceiver(i % 3, 0, 1 + i % 4), i);
        }
        Script.more(CHECKS, "promises 14, 25, 44", x,
                "receivers = 20", "addReceiver 0 0 1 = NOT_FOUND", "addReceiver 0 0 5 = INVALID", "receivers = 20",
                "offer 1 0 = 4", "receivers = 20", "leave 3 = 4", "addReceiver 0 0 1 = NOT_FOUND", "undo = 9", "undo = 8",
                "receivers = 19", "addReceiver 2 0 4 = 19", "level 19 = 4");
        // a question with twenty receivers takes nobody's place
        LayeredMulticast y = Checks.loaded("nodes 2;link 0 1 capacity 3 delay 1;cpu 0 9;native 1;format 1 rates 3;");
        for (int i = 0; i < 19; i++) {
            y.addReceiver(0, 0, 1);
        }
        Script.more(CHECKS, "promise 44", y,
                "place 0 1 = true", "offer 1 0 = 1", "addReceiver 1 1 1 = 19", "level 19 = 1", "offer 1 0 = 0", "offer 1 1 = 1", "level 19 = 1",
                "receivers = 20");
    }

    private static void leave() {
        Script.run(CHECKS, "promise 15", Networks.RING,
                "addReceiver 4 0 3 = 0", "addReceiver 2 0 1 = 1", "addReceiver 5 0 2 = 2", "addReceiver 5 1 1 = 3",
                "levels = 3120", "leave 0 = 3", "levels = 0120", "hasLeft 0 = true",
                "report = 1 0 100|2 1 100|3 0 200|5 3 200|", "leave 0 = INVALID", "leave 4 = INVALID", "leave -1 = INVALID",
                "leave 3 = 0", "leave 2 = 2", "report = 1 0 100|2 1 100|", "receivers = 4", "total 7 = 1",
                "leave 1 = 1", "report = ", "improve = NOT_FOUND", "rebuild = NOT_FOUND", "levels = 0000", "undo = 7", "levels = 0100");
    }

    private static void setWanted() {
        Script.run(CHECKS, "promise 16", Networks.RING,
                "addReceiver 4 0 3 = 0", "setWanted 0 3 = NOT_FOUND", "undo = 0", "addReceiver 4 0 3 = 0",
                "setWanted 0 0 = INVALID", "setWanted 0 4 = INVALID", "setWanted 1 1 = INVALID", "setWanted -1 1 = INVALID",
                "setWanted 0 1 = 1", "levels = 1", "wanted 0 = 1", "linkLoad 0 = 2", "setWanted 0 2 = 1", "levels = 1",
                "wanted 0 = 2", "setWanted 0 2 = NOT_FOUND", "undo = 2", "wanted 0 = 1", "leave 0 = 1", "setWanted 0 2 = INVALID");
    }

    private static void raise() {
        Script.run(CHECKS, "promise 17", Networks.RING,
                "setCapacity 5 0 = 0", "addReceiver 5 0 2 = 0", "levels = 0", "raise 0 = NOT_FOUND", "isInTree 5 = false",
                "setCapacity 5 4 = 0", "raise 0 = 1", "parent 5 = 3", "raise 0 = 2", "raise 0 = NOT_FOUND", "setWanted 0 3 = 2",
                "raise 0 = NOT_FOUND", "levels = 2", "linkLoad 5 = 4", "undo = 5", "wanted 0 = 2", "raise 1 = INVALID", "raise -1 = INVALID",
                // a graft that would not be valid is taken back
                "addReceiver 4 1 1 = 1", "raise 1 = NOT_FOUND", "isInTree 4 = false", "isInTree 2 = false", "undo = 5",
                "leave 0 = 2", "raise 0 = INVALID");
    }

    private static void place() {
        Script.run(CHECKS, "promise 18", Networks.CHAIN,
                "place 0 0 = false", "place 3 1 = false", "place -1 1 = false", "place 0 3 = false", "place 0 -1 = false",
                "undo = INVALID", "place 0 1 = true", "place 0 1 = false", "total 4 = 1", "addReceiver 2 1 4 = 0", "levels = 4",
                "servedAt 0 = 0", "linkLoad 0 = 8",
                // the processors of nodes 1 and 2 are too small for four levels
                "place 1 1 = false", "isPlaced 1 1 = false", "place 2 1 = false", "setWanted 0 3 = 3", "place 1 1 = true",
                "servedAt 0 = 1", "linkLoad 0 = 3", "linkLoad 1 = 6", "cpuLoad 0 = 0", "cpuLoad 1 = 6", "place 2 1 = false",
                "place 2 2 = true", "undo = 4", "undo = 3", "isPlaced 1 1 = false", "isPlaced 0 1 = true");
        // a converter may also make the load of a link greater
        Script.run(CHECKS, "promise 18", "nodes 2;link 0 1 capacity 3 delay 1;cpu 0 9;cpu 1 9;native 5;format 1 rates 2;",
                "place 0 1 = true", "addReceiver 1 1 1 = 0", "levels = 1", "place 1 1 = false", "linkLoad 0 = 2",
                "leave 0 = 1", "place 1 1 = true");
    }

    private static void remove() {
        Script.run(CHECKS, "promise 19", Networks.CHAIN,
                "place 0 1 = true", "place 1 1 = true", "addReceiver 2 1 3 = 0", "addReceiver 1 1 4 = 1", "addReceiver 0 1 4 = 2",
                "levels = 334", "remove 0 0 = INVALID", "remove 3 1 = INVALID", "remove -1 1 = INVALID", "remove 0 3 = INVALID",
                "remove 2 1 = NOT_FOUND", "remove 0 2 = NOT_FOUND", "servedAt 0 = 1",
                "remove 1 1 = 0", "levels = 334", "servedAt 0 = 0", "remove 1 1 = NOT_FOUND", "linkLoad 0 = 6",
                "remove 0 1 = 10", "levels = 000", "report = ", "undo = 6", "levels = 334", "isPlaced 0 1 = true", "undo = 5",
                "isPlaced 1 1 = true", "servedAt 0 = 1");
        // receivers of other formats, and those that another node serves, are not lowered
        Script.run(CHECKS, "promise 19", Networks.CHAIN,
                "place 0 1 = true", "place 0 2 = true", "place 2 1 = true", "addReceiver 2 1 1 = 0", "addReceiver 1 1 2 = 1",
                "addReceiver 1 2 4 = 2", "addReceiver 1 0 4 = 3", "levels = 1244", "remove 0 1 = 2", "levels = 1044",
                "servedAt 0 = 2", "remove 0 2 = 4", "levels = 1004");
    }

    private static void removeLowersByProcessor() {
        Script.run(CHECKS, "promise 19", "nodes 3;link 0 1 capacity 99 delay 1;link 1 2 capacity 99 delay 1;"
                        + "cpu 0 4;cpu 1 20;native 1 1 1 1;format 2 rates 1 1 1 1;",
                "place 0 1 = true", "place 1 1 = true", "addReceiver 2 1 3 = 0", "addReceiver 2 1 4 = 1", "addReceiver 0 1 1 = 2",
                "addReceiver 2 0 4 = 3", "levels = 3414", "cpuLoad 1 = 8", "cpuLoad 0 = 2",
                // the greatest level is lowered first, of two equal ones the later one
                "remove 1 1 = 3", "levels = 2214", "cpuLoad 0 = 4", "cpuLoad 1 = 0");
    }

    private static void orderOfViolations() {
        // links come before processors: otherwise receiver 2 would keep its level
        Script.run(CHECKS, "promise 19", "nodes 3;link 0 2 capacity 9 delay 1;link 0 1 capacity 6 delay 1;"
                        + "cpu 0 9;cpu 1 12;native 1 1 1;format 4 rates 2 1 1;",
                "place 0 1 = true", "place 1 1 = true", "addReceiver 2 1 2 = 0", "addReceiver 1 1 3 = 1", "addReceiver 1 0 3 = 2",
                "levels = 233", "linkLoad 1 = 3", "linkLoad 0 = 3", "cpuLoad 0 = 8", "remove 1 1 = 2", "levels = 222");
        // links in ascending order: otherwise receiver 1 would be lowered for the upper link, which is link 1
        Script.run(CHECKS, "promise 19", "nodes 3;link 1 2 capacity 5 delay 1;link 0 1 capacity 8 delay 1;"
                        + "cpu 0 99;cpu 2 99;native 1 1 1;format 1 rates 5 5 5;",
                "place 0 1 = true", "place 2 1 = true", "addReceiver 2 1 2 = 0", "levels = 1", "raise 0 = 2", "addReceiver 1 0 3 = 1", "levels = 23",
                "linkLoad 0 = 2", "linkLoad 1 = 3", "remove 2 1 = 1", "levels = 13", "linkLoad 0 = 5", "linkLoad 1 = 8");
        // a format without a converter does not touch those of another format
        Script.run(CHECKS, "promise 19", "nodes 2;link 0 1 capacity 99 delay 1;cpu 0 4;cpu 1 9;native 1 1 1;format 2 rates 1 1 1;format 2 rates 1 1 1;",
                "place 0 2 = true", "place 1 1 = true", "place 1 2 = true", "addReceiver 1 1 2 = 0", "addReceiver 1 2 2 = 1",
                "levels = 22", "remove 1 2 = 0", "servedAt 1 = 0", "remove 1 1 = 2", "levels = 02");
    }

    private static void setCapacity() {
        Script.run(CHECKS, "promise 20", Networks.RING,
                "addReceiver 4 0 3 = 0", "addReceiver 2 0 3 = 1", "addReceiver 1 0 2 = 2", "addReceiver 5 0 2 = 3", "levels = 3322",
                "setCapacity 6 1 = INVALID", "setCapacity -1 1 = INVALID", "setCapacity 0 -1 = INVALID", "setCapacity 0 10000 = INVALID",
                "setCapacity 0 10 = NOT_FOUND", "setCapacity 0 5 = 0", "setCapacity 0 4 = 2", "levels = 2222", "capacity 0 = 4",
                "setCapacity 1 3 = 2", "levels = 1122", "setCapacity 0 4 = NOT_FOUND", "setCapacity 0 0 = 4", "levels = 0002",
                "report = 3 0 200|5 3 200|", "setCapacity 0 9999 = 0", "levels = 0002", "capacity 0 = 9999", "undo = 8", "undo = 7",
                "levels = 1122", "capacity 0 = 4");
        // on the link the greatest level of any format is lowered, and only below the link
        Script.run(CHECKS, "promise 20", Networks.CHAIN,
                "place 0 1 = true", "addReceiver 1 1 3 = 0", "addReceiver 2 0 4 = 1", "addReceiver 2 1 2 = 2", "levels = 342",
                "linkLoad 0 = 10", "linkLoad 1 = 8", "setCapacity 1 7 = 1", "levels = 332", "setCapacity 1 5 = 2", "levels = 321",
                "setCapacity 0 0 = 6", "levels = 000", "report = ");
    }

    private static void setOpen() {
        Script.run(CHECKS, "promise 21", Networks.RING,
                "addReceiver 4 0 3 = 0", "addReceiver 2 0 1 = 1", "addReceiver 5 0 2 = 2", "addReceiver 1 0 3 = 3", "levels = 3123",
                "setOpen 6 false = INVALID", "setOpen -1 true = INVALID", "setOpen 1 true = NOT_FOUND",
                // nodes 2 and 4 come back by node 3
                "setOpen 1 false = 0", "setOpen 1 false = NOT_FOUND", "parent 2 = 3", "parent 4 = 2", "delay 4 = 8", "levels = 3123",
                "setOpen 1 true = 0", "parent 2 = 3",
                // nodes 2 to 5 come back by node 1
                "setOpen 2 false = 0", "parent 2 = 1", "parent 3 = 2", "parent 5 = 3", "levels = 3123",
                "setOpen 5 false = 2", "levels = 3103", "isInTree 3 = false", "isInTree 5 = false",
                "setOpen 5 true = 0", "levels = 3103", "improve = 2", "levels = 3123", "setOpen 0 false = 9", "levels = 0000",
                "report = ", "undo = 9", "levels = 3123", "isOpen 0 = true");
        // a link outside the tree takes nothing, and nobody joins anew
        Script.run(CHECKS, "promise 21", Networks.RING,
                "addReceiver 0 0 1 = 0", "addReceiver 4 0 1 = 1", "setWanted 0 3 = 1", "setWanted 1 3 = 1", "setOpen 3 false = 0", "levels = 11",
                "setOpen 5 false = 0", "levels = 11", "parent 4 = 2", "setOpen 4 false = 1", "levels = 10", "undo = 6", "levels = 11");
        // only those that had a level come back, in ascending order, and the rest is pruned
        Script.run(CHECKS, "promise 21", "nodes 4;link 0 1 capacity 9 delay 1;link 1 2 capacity 9 delay 1;link 2 3 capacity 0 delay 1;"
                        + "link 0 3 capacity 2 delay 9;native 1 1;",
                "addReceiver 3 0 2 = 0", "setCapacity 3 0 = 2", "setCapacity 2 1 = 0", "addReceiver 2 0 2 = 1", "addReceiver 3 0 2 = 2",
                "levels = 021", "setCapacity 3 2 = 0", "setOpen 2 false = -1", "levels = 022", "parent 3 = 0",
                "setOpen 3 false = 2", "levels = 020", "setOpen 1 false = 2", "levels = 000", "report = ");
        Script.run(CHECKS, "promise 21", "nodes 3;link 0 1 capacity 9 delay 1;link 1 2 capacity 9 delay 1;link 0 2 capacity 3 delay 9;"
                        + "cpu 0 9;native 1 1;format 1 rates 2 2;",
                "place 0 1 = true", "addReceiver 2 0 2 = 0", "addReceiver 2 1 2 = 1", "levels = 22", "setOpen 1 false = 2",
                "levels = 20", "isInTree 1 = false", "undo = 3", "leave 0 = 2", "setOpen 1 false = 1", "levels = 01");
    }

    private static void setOpenMayGain() {
        // a result that looks like NOT_FOUND or INVALID is an operation all the same
        Script.run(CHECKS, "promise 21", Networks.RING,
                "addReceiver 4 0 3 = 0", "setCapacity 1 2 = 2", "levels = 1", "loss 1 = -2", "setOpen 1 false = -2", "levels = 3",
                "undo = 2", "levels = 1", "isOpen 1 = true", "setCapacity 1 4 = 0", "raise 0 = 2", "loss 1 = -1",
                "setOpen 1 false = -1", "undo = 4", "levels = 2");
    }

    private static void improve() {
        Script.run(CHECKS, "promise 22", Networks.CHAIN,
                "place 0 1 = true", "setCapacity 0 0 = 0", "addReceiver 1 0 4 = 0", "addReceiver 1 1 4 = 1", "levels = 00",
                "improve = NOT_FOUND", "undo = 3", "addReceiver 1 1 4 = 1", "setCapacity 0 7 = 0",
                // in turns: one level for each in a pass
                "improve = 5", "levels = 32", "linkLoad 0 = 7", "improve = NOT_FOUND", "undo = 5", "levels = 00", "leave 0 = 0",
                "improve = 3", "levels = 03", "setCapacity 0 100 = 0", "improve = 1", "levels = 04", "improve = NOT_FOUND");
        // a try fails in the first pass and succeeds in the second, when node 1 hangs in the tree
        Script.run(CHECKS, "promise 22", "nodes 3;link 0 1 capacity 1 delay 1;link 0 2 capacity 9 delay 1;link 2 1 capacity 9 delay 1;"
                        + "cpu 2 9;native 2;format 1 rates 1;",
                "addReceiver 1 1 1 = 0", "place 2 1 = true", "levels = 0", "addReceiver 2 0 1 = 1", "improve = NOT_FOUND",
                "setOpen 0 false = 0", "improve = 1", "levels = 11", "servedAt 0 = 2");
    }

    private static void rebuild() {
        Script.run(CHECKS, "promise 23", Networks.RING,
                "rebuild = NOT_FOUND", "addReceiver 4 0 3 = 0", "rebuild = NOT_FOUND", "setCapacity 1 2 = 2", "levels = 1",
                "rebuild = 2", "levels = 3", "parent 2 = 3", "rebuild = NOT_FOUND", "undo = 2", "levels = 1", "parent 2 = 1");
        // the same sum by another tree is not taken
        Script.run(CHECKS, "promise 23", Networks.RING,
                "setOpen 1 false = 0", "addReceiver 4 0 3 = 0", "addReceiver 2 0 1 = 1", "setOpen 1 true = 0", "parent 2 = 3",
                "rebuild = NOT_FOUND", "parent 2 = 3", "levels = 31", "undo = 3", "isOpen 1 = false", "leave 0 = 3", "setOpen 1 true = 0",
                "rebuild = NOT_FOUND", "levels = 01");
        // an earlier receiver may take what a later one had
        Script.run(CHECKS, "promise 23", "nodes 2;link 0 1 capacity 0 delay 1;cpu 0 9;native 1 1 1 1;format 1 rates 4 4 4 4;",
                "place 0 1 = true", "addReceiver 1 0 4 = 0", "setCapacity 0 4 = 0", "addReceiver 1 1 1 = 1", "levels = 01",
                "rebuild = 3", "levels = 40", "linkLoad 0 = 4", "undo = 4", "levels = 01", "setWanted 0 1 = 0", "rebuild = NOT_FOUND",
                "levels = 01", "setWanted 0 2 = 0", "rebuild = 1", "levels = 20");
        // those that have left do not come back
        Script.run(CHECKS, "promise 23", Networks.RING,
                "addReceiver 4 0 3 = 0", "addReceiver 2 0 3 = 1", "leave 1 = 3", "setCapacity 1 2 = 2", "rebuild = 2", "levels = 30",
                "hasLeft 1 = true");
    }

    private static void undoEachKind() {
        Script.run(CHECKS, "promise 24", Networks.RING,
                "undo = INVALID", "addReceiver 4 0 2 = 0", "place 1 1 = true", "place 1 1 = false", "remove 1 1 = 0", "setWanted 0 3 = 2",
                "raise 0 = 3", "raise 0 = NOT_FOUND", "setCapacity 1 2 = 2", "rebuild = 2", "setOpen 0 false = 0", "setCapacity 3 0 = 3",
                "setCapacity 3 9 = 0", "improve = 3", "levels = 3",
                "undo = 9", "levels = 0", "undo = 8", "capacity 3 = 0", "undo = 7", "levels = 3", "capacity 3 = 9", "undo = 6",
                "isOpen 0 = true", "undo = 5", "levels = 1", "parent 2 = 1", "undo = 4", "levels = 3", "capacity 1 = 6", "undo = 3",
                "levels = 2", "wanted 0 = 3", "undo = 2", "wanted 0 = 2", "undo = 1", "isPlaced 1 1 = true", "undo = 0", "isPlaced 1 1 = false",
                "undo = INVALID", "receivers = 1", "levels = 2");
        Script.run(CHECKS, "promise 24", Networks.RING,
                "addReceiver 4 0 2 = 0", "leave 0 = 2", "undo = 1", "hasLeft 0 = false", "levels = 2", "parent 4 = 2", "undo = 0",
                "receivers = 0", "level 0 = INVALID", "report = ", "undo = INVALID", "addReceiver 1 0 1 = 0", "undo = 0");
    }

    private static void undoTheLatestTen() {
        LayeredMulticast x = Checks.loaded(Networks.RING);
        for (int i = 1; i <= 25; i++) {
            CHECKS.due("promise 24: setCapacity", x.setCapacity(5, 100 + i), 0);
        }
        for (int i = 9; i >= 4; i--) {
            CHECKS.due("promise 24: undo", x.undo(), i);
            CHECKS.due("promise 24: capacity", x.capacity(5), 115 + i);
        }
        Script.more(CHECKS, "promise 24", x,
                "setCapacity 5 1 = 0", "undo = 4", "capacity 5 = 119", "undo = 3", "undo = 2", "undo = 1", "undo = 0",
                "capacity 5 = 115", "undo = INVALID", "capacity 5 = 115");
    }
}
