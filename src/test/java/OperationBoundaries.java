import java.util.ArrayList;
import java.util.List;

/** Promises 14 to 24 at their boundaries: the operations and their undoing. */
final class OperationBoundaries {
    /** A link that carries all levels of both formats, and a processor that makes them. */
    static final String WIDE = "nodes 2;link 0 1 capacity 10 delay 1;cpu 0 5;native 1 1 1 1 1;format 1 rates 1 1 1 1 1;";
    private final Boundary b;

    OperationBoundaries(Boundary b) {
        this.b = b;
    }

    void test() {
        addReceiver();
        leave();
        setWanted();
        raise();
        place();
        remove();
        setCapacity();
        closing();
        setOpen();
        improve();
        rebuild();
        operations();
        undo();
        latestTen();
    }

    /** These lines, then one for each of twenty receivers at node 1 that want this level, and then more lines. */
    static String[] crowd(String[] before, int format, int wanted, String... behind) {
        List<String> lines = new ArrayList<>(List.of(before));
        for (int i = 0; i < 20; i++) {
            lines.add("addReceiver 1 " + format + " " + wanted + " = " + i);
        }
        lines.addAll(List.of(behind));
        return lines.toArray(new String[0]);
    }

    private static String twenty(int level) {
        return Integer.toString(level).repeat(20);
    }

    private void addReceiver() {
        b.says("Promise 14", "Adds a receiver, which joins (section 4).");
        b.run(WIDE, "receivers = 0", "addReceiver 1 0 5 = 0", "receivers = 1", "level 0 = 5", "setCapacity 0 1 = 4", "addReceiver 1 0 5 = 1", "level 1 = 1",
                "addReceiver 1 1 5 = 2", "level 2 = 0", "receivers = 3", "wanted 2 = 5", "hasLeft 2 = false");

        b.says("Promise 14", "NOT_FOUND if 20 receivers have been added already.");
        String[] nineteen = new String[19];
        System.arraycopy(crowd(new String[0], 0, 1), 0, nineteen, 0, 19);
        b.runAfter("", nineteen, "addReceiver 0 0 1 = 19", "addReceiver 0 0 1 = NOT_FOUND", "receivers = 20", "level 19 = 1");
        b.kept("", crowd(new String[0], 0, 1), "addReceiver 0 0 1 = NOT_FOUND", "addReceiver 1 0 1 = NOT_FOUND");
        // who has left was added all the same
        b.runAfter("", crowd(new String[0], 0, 1), "leave 0 = 0", "leave 19 = 0", "addReceiver 0 0 1 = NOT_FOUND", "receivers = 20", "undo = 9", "undo = 8",
                "addReceiver 0 0 1 = NOT_FOUND", "undo = 7", "receivers = 19", "addReceiver 0 0 1 = 19", "level 19 = 1", "addReceiver 0 0 1 = NOT_FOUND");
    }

    private void leave() {
        b.says("Promise 15", "Lets a receiver leave for good.");
        b.run(Networks.RING, "addReceiver 4 0 3 = 0", "addReceiver 4 0 2 = 1", "leave 0 = 3", "leave 0 = INVALID", "setOpen 4 false = 2", "setOpen 4 true = 0",
                "improve = 2", "levels = 02", "rebuild = NOT_FOUND", "addReceiver 4 0 3 = 2", "levels = 023", "hasLeft 0 = true", "hasLeft 2 = false");

        b.says("Promise 15", "Returns the level that it had;");
        b.run(WIDE, "addReceiver 1 0 5 = 0", "addReceiver 1 0 1 = 1", "addReceiver 1 1 5 = 2", "leave 2 = 0", "leave 1 = 1", "leave 0 = 5", "levels = 000");
    }

    private void setWanted() {
        b.says("Promise 16", "If its level is greater, it becomes the wanted level.");
        b.run(Networks.RING, "addReceiver 5 0 3 = 0", "level 0 = 2", "setWanted 0 2 = 2", "level 0 = 2", "setWanted 0 1 = 1", "level 0 = 1", "linkLoad 5 = 2",
                "setWanted 0 2 = 1", "level 0 = 1", "setWanted 0 3 = 1", "level 0 = 1", "wanted 0 = 3");
        b.run(WIDE, "addReceiver 1 0 5 = 0", "setWanted 0 1 = 1", "undo = 1", "levels = 5", "wanted 0 = 5", "setWanted 0 4 = 4", "setWanted 0 5 = 4", "levels = 4");
        b.run(Networks.RING, "addReceiver 4 1 3 = 0", "level 0 = 0", "setWanted 0 1 = 0", "setWanted 0 3 = 0", "level 0 = 0", "total 3 = 1");

        b.says("Promise 16", "NOT_FOUND if the wanted level is so already.");
        b.kept(Networks.RING, new String[] {"addReceiver 4 0 3 = 0", "addReceiver 5 0 3 = 1", "addReceiver 4 1 1 = 2", "levels = 320"},
                "setWanted 0 3 = NOT_FOUND", "setWanted 1 3 = NOT_FOUND", "setWanted 2 1 = NOT_FOUND");
        b.run(Networks.RING, "addReceiver 5 0 3 = 0", "level 0 = 2", "setWanted 0 2 = 2", "setWanted 0 2 = NOT_FOUND", "setWanted 0 3 = 2",
                "setWanted 0 3 = NOT_FOUND", "undo = 2", "wanted 0 = 2", "undo = 1", "wanted 0 = 3");
    }

    private void raise() {
        b.says("Promise 17", "Tries a level for a receiver that is greater by 1 than its level.");
        b.run(WIDE, "setCapacity 0 0 = 0", "addReceiver 1 0 5 = 0", "level 0 = 0", "setCapacity 0 10 = 0", "raise 0 = 1", "level 0 = 1", "parent 1 = 0",
                "raise 0 = 2", "raise 0 = 3", "raise 0 = 4", "raise 0 = 5", "level 0 = 5", "raise 0 = NOT_FOUND", "level 0 = 5");

        b.says("Promise 17", "NOT_FOUND if it has its wanted level, or if the try fails.");
        b.kept(WIDE, new String[] {"addReceiver 1 0 1 = 0", "addReceiver 1 0 5 = 1", "levels = 15"}, "raise 0 = NOT_FOUND", "raise 1 = NOT_FOUND");
        b.kept(WIDE, new String[] {"setCapacity 0 4 = 0", "addReceiver 1 0 5 = 0", "addReceiver 1 1 5 = 1", "levels = 40"}, "raise 0 = NOT_FOUND",
                "raise 1 = NOT_FOUND");
        b.kept(WIDE, new String[] {"setOpen 0 false = 0", "addReceiver 1 0 5 = 0"}, "raise 0 = NOT_FOUND");
        b.kept(WIDE, new String[] {"addReceiver 1 1 5 = 0", "total 3 = 1"}, "raise 0 = NOT_FOUND");
        b.runAfter(WIDE, new String[] {"setCapacity 0 4 = 0", "addReceiver 1 0 5 = 0"}, "raise 0 = NOT_FOUND", "setCapacity 0 5 = 0", "raise 0 = 5");
    }

    private void place() {
        b.says("Promise 18", "Returns true;", "false for an invalid argument, if it is there already, or if the tree would not be valid then.");
        b.kept(WIDE, new String[] {"place 0 1 = true", "place 1 1 = true"}, "place 0 1 = false", "place 1 1 = false", "place 0 0 = false", "place 0 2 = false",
                "place 2 1 = false", "place -1 1 = false", "place 0 -1 = false");
        // the processor of node 1 must make two levels
        String cpu = "nodes 2;link 0 1 capacity 99 delay 1;cpu 0 99;cpu 1 #;native 1 1;format 3 rates 1 1;";
        String[] served = {"place 0 1 = true", "addReceiver 1 1 2 = 0", "level 0 = 2"};
        b.runAfter(cpu.replace("#", "6"), served, "place 1 1 = true", "cpuLoad 1 = 6", "servedAt 0 = 1", "place 1 1 = false", "undo = 2", "servedAt 0 = 0");
        b.kept(cpu.replace("#", "5"), served, "place 1 1 = false");
        b.kept(cpu.replace("#", "0"), served, "place 1 1 = false");
        // the native format needs more of the link
        String link = "nodes 2;link 0 1 capacity # delay 1;cpu 0 9;cpu 1 9;native 5;format 1 rates 2;";
        String[] carried = {"place 0 1 = true", "addReceiver 1 1 1 = 0", "linkLoad 0 = 2"};
        b.runAfter(link.replace("#", "5"), carried, "place 1 1 = true", "linkLoad 0 = 5");
        b.kept(link.replace("#", "4"), carried, "place 1 1 = false");
        // without a receiver no processor is needed
        b.run("nodes 2;native 1;format 99 rates 1;", "place 0 1 = true", "place 1 1 = true", "total 4 = 2");
    }

    private void remove() {
        b.says("Promise 19", "Then the tree is repaired (section 5).");
        b.runAfter(WIDE, new String[] {"place 0 1 = true", "place 1 1 = true"}, "remove 1 1 = 0", "remove 0 1 = 0", "total 4 = 0", "undo = 3", "undo = 2",
                "total 4 = 2");
        b.runAfter(WIDE, crowd(new String[] {"place 0 1 = true"}, 1, 5, "total 0 = 100"), "remove 0 1 = 100", "levels = " + twenty(0), "total 3 = 1",
                "undo = 9", "levels = " + twenty(5));
        b.runAfter(WIDE, new String[] {"place 0 1 = true", "addReceiver 1 1 1 = 0", "addReceiver 1 0 5 = 1", "levels = 15"}, "remove 0 1 = 1", "levels = 05");

        b.says("Promise 19", "NOT_FOUND if there is no such converter.");
        b.kept(Networks.CHAIN, new String[] {"place 0 1 = true", "place 1 1 = true", "remove 1 1 = 0"}, "remove 1 1 = NOT_FOUND", "remove 0 2 = NOT_FOUND",
                "remove 2 1 = NOT_FOUND", "remove 2 2 = NOT_FOUND");
    }

    private void setCapacity() {
        b.says("Promise 20", "Then the tree is repaired (section 5).");
        b.run(WIDE, "addReceiver 1 0 5 = 0", "linkLoad 0 = 5", "setCapacity 0 5 = 0", "level 0 = 5", "setCapacity 0 4 = 1", "level 0 = 4", "setCapacity 0 0 = 4",
                "level 0 = 0", "isInTree 1 = false", "setCapacity 0 9999 = 0", "level 0 = 0");
        b.runAfter(WIDE, crowd(new String[0], 0, 5, "total 0 = 100"), "setCapacity 0 0 = 100", "levels = " + twenty(0), "undo = 9", "setCapacity 0 4 = 20",
                "levels = " + twenty(4), "setCapacity 0 1 = 60", "levels = " + twenty(1));
        // a link outside the tree, and a closed one
        b.run(Networks.RING, "addReceiver 4 0 3 = 0", "setCapacity 3 0 = 0", "setOpen 3 false = 0", "setCapacity 3 9 = 0", "capacity 3 = 9", "levels = 3");

        b.says("Promise 20", "- `capacity`: 0 to 9999");
        b.run(WIDE, "setCapacity 0 9999 = 0", "capacity 0 = 9999", "setCapacity 0 10000 = INVALID", "setCapacity 0 -1 = INVALID", "capacity 0 = 9999",
                "setCapacity 0 0 = 0", "capacity 0 = 0", "setCapacity 0 1 = 0", "setCapacity 0 9998 = 0", "capacity 0 = 9998", "undo = 3");

        b.says("Promise 20", "NOT_FOUND if the capacity is so already.");
        b.kept(WIDE, new String[] {"addReceiver 1 0 5 = 0", "setCapacity 0 3 = 2"}, "setCapacity 0 3 = NOT_FOUND");
        b.kept(WIDE, new String[] {"setCapacity 0 0 = 0"}, "setCapacity 0 0 = NOT_FOUND");
        b.kept(WIDE, new String[] {"setCapacity 0 9999 = 0"}, "setCapacity 0 9999 = NOT_FOUND");
        b.kept(WIDE, new String[0], "setCapacity 0 10 = NOT_FOUND");
    }

    private void closing() {
        b.says("Promise 21", "If the uplink of a tree node is closed, then this node and all nodes below it are removed from the tree, the levels of all receivers "
                + "at these nodes become 0, the tree is pruned, and then those of these receivers that had a level greater than 0 join again (section 4), in "
                + "ascending order.");
        // the first link of a row takes all nodes but the source, the last one only the last node
        b.run(Networks.row("native 1;"), "addReceiver 15 0 1 = 0", "addReceiver 14 0 1 = 1", "setOpen 14 false = 1", "levels = 01", "total 3 = 15", "undo = 2",
                "levels = 11", "setOpen 0 false = 2", "levels = 00", "total 3 = 1", "isInTree 0 = true");
        // nodes above the link that nobody needs go, too
        b.run(Networks.row("native 1;"), "addReceiver 15 0 1 = 0", "setOpen 14 false = 1", "total 3 = 1");
        // receiver 1 had no level, and does not join, though it could now
        String ways = "nodes 3;link 0 1 capacity 1 delay 1;link 0 2 capacity 9 delay 9;link 2 1 capacity 9 delay 9;cpu 0 9;native 1;format 1 rates 1;";
        b.run(ways, "place 0 1 = true", "addReceiver 1 0 1 = 0", "addReceiver 1 1 1 = 1", "levels = 10", "offer 1 1 = 0", "setOpen 0 false = 0", "levels = 10",
                "parent 1 = 2", "offer 1 1 = 1", "improve = 1", "levels = 11");
        // receiver 0 comes first and takes what receiver 1 could have had
        b.run("nodes 3;link 0 1 capacity 9 delay 1;link 1 2 capacity 9 delay 1;link 0 2 capacity 3 delay 9;cpu 0 9;native 1 1;format 1 rates 2 2;",
                "place 0 1 = true", "addReceiver 2 0 2 = 0", "addReceiver 2 1 2 = 1", "levels = 22", "setOpen 1 false = 2", "levels = 20", "isInTree 1 = false",
                "parent 2 = 0");
        // who is not below the link stays as it is
        b.run(Networks.RING, "addReceiver 4 0 3 = 0", "addReceiver 5 0 1 = 1", "setWanted 1 2 = 1", "setOpen 4 false = 3", "levels = 01", "parent 5 = 3",
                "isInTree 1 = false");
        b.run(Networks.RING, "addReceiver 0 0 1 = 0", "addReceiver 4 0 1 = 1", "addReceiver 2 0 1 = 2", "setWanted 0 3 = 1", "setWanted 1 3 = 1", "setWanted 2 3 = 1",
                "setOpen 3 false = 0", "levels = 111", "setOpen 5 false = 0", "levels = 111", "setOpen 4 false = 1", "levels = 101");
        // a link between two tree nodes that is nobody's uplink takes nothing, and opening brings nobody back
        b.run(Networks.RING, "addReceiver 4 0 3 = 0", "addReceiver 3 0 3 = 1", "setOpen 3 false = 0", "levels = 33", "setOpen 4 false = 3", "setOpen 4 true = 0",
                "levels = 03", "isInTree 4 = false");
    }

    private void setOpen() {
        b.says("Promise 21", "- `open`: true to open it");
        b.run(WIDE, "isOpen 0 = true", "setOpen 0 false = 0", "isOpen 0 = false", "offer 1 0 = 0", "setOpen 0 true = 0", "isOpen 0 = true", "offer 1 0 = 5");

        b.says("Promise 21", "Returns by how much the sum of the levels of all receivers has become smaller (it may be negative);");
        b.runAfter(WIDE, crowd(new String[0], 0, 5, "total 0 = 100"), "setOpen 0 false = 100", "total 0 = 0", "undo = 9", "total 0 = 100");
        b.run(Networks.RING, "addReceiver 4 0 3 = 0", "setCapacity 1 2 = 2", "setOpen 1 false = -2", "levels = 3", "undo = 2", "levels = 1", "setCapacity 1 4 = 0",
                "raise 0 = 2", "setOpen 1 false = -1", "levels = 3", "undo = 4", "levels = 2");
        String ways = "nodes 3;link 0 1 capacity 1 delay 1;link 0 2 capacity 9 delay 9;link 2 1 capacity 9 delay 9;native 1 1 1 1 1;";
        List<String> want = new ArrayList<>();
        for (int i = 0; i < 20; i++) {
            want.add("setWanted " + i + " 5 = 1");
        }
        b.runAfter(ways, crowd(new String[0], 0, 1, want.toArray(new String[0])), "total 0 = 20", "loss 0 = -80", "setOpen 0 false = -80", "total 0 = 100",
                "undo = 9", "total 0 = 20");

        b.says("Promise 21", "NOT_FOUND if it is so already.");
        b.kept(Networks.RING, new String[] {"addReceiver 4 0 3 = 0", "setOpen 3 false = 0"}, "setOpen 0 true = NOT_FOUND", "setOpen 5 true = NOT_FOUND",
                "setOpen 3 false = NOT_FOUND");
        b.kept(Networks.RING, new String[] {"setOpen 3 false = 0", "setOpen 3 true = 0"}, "setOpen 3 true = NOT_FOUND");
    }

    private void improve() {
        b.says("Promise 22", "Raises receivers: again and again the receivers that have not left and whose level is less than the wanted one are taken in ascending "
                + "order, and for each of them a level that is greater by 1 is tried, until no try succeeds in a whole pass.");
        // a level for each in turn, the first one first
        b.run(Networks.CHAIN, "place 0 1 = true", "setCapacity 0 0 = 0", "addReceiver 1 0 4 = 0", "addReceiver 1 1 4 = 1", "setCapacity 0 7 = 0", "improve = 5",
                "levels = 32", "undo = 5", "setCapacity 0 1 = 0", "improve = 1", "levels = 10");
        // receiver 0 finds no path in the first pass; in the second its node is in the tree
        b.run("nodes 2;link 0 1 capacity 0 delay 1;cpu 1 9;native 1 1;format 1 rates 9 9;", "place 1 1 = true", "addReceiver 1 1 2 = 0", "addReceiver 1 0 1 = 1",
                "setCapacity 0 2 = 0", "levels = 00", "improve = 3", "levels = 21");
        // nobody gets more than is wanted, and who has left gets nothing
        b.run(WIDE, "setCapacity 0 0 = 0", "addReceiver 1 0 5 = 0", "addReceiver 1 0 1 = 1", "addReceiver 1 0 4 = 2", "leave 2 = 0", "setCapacity 0 10 = 0",
                "improve = 6", "levels = 510");
        b.runAfter(WIDE, crowd(new String[] {"setCapacity 0 0 = 0"}, 0, 5, "setCapacity 0 10 = 0"), "total 0 = 0", "improve = 100", "levels = " + twenty(5),
                "improve = NOT_FOUND");

        b.says("Promise 22", "NOT_FOUND if there was none (this is no operation).");
        b.kept(WIDE, new String[0], "improve = NOT_FOUND");
        b.kept(WIDE, new String[] {"addReceiver 1 0 5 = 0", "addReceiver 0 0 1 = 1"}, "improve = NOT_FOUND");
        b.kept(WIDE, new String[] {"setCapacity 0 4 = 0", "addReceiver 1 0 5 = 0", "addReceiver 1 1 5 = 1", "levels = 40"}, "improve = NOT_FOUND");
        b.kept(WIDE, new String[] {"setCapacity 0 0 = 0", "addReceiver 1 0 5 = 0", "setCapacity 0 10 = 0", "leave 0 = 0"}, "improve = NOT_FOUND");
    }

    private void rebuild() {
        b.says("Promise 23", "Builds the tree anew: it consists of the source only, the levels of all receivers become 0, and then the receivers that have not left "
                + "join in ascending order.");
        b.run(Networks.RING, "addReceiver 4 0 3 = 0", "addReceiver 2 0 3 = 1", "leave 1 = 3", "setCapacity 1 2 = 2", "rebuild = 2", "levels = 30",
                "parent 2 = 3", "isInTree 1 = false", "hasLeft 1 = true");
        // receiver 0 joins first, with all it wants, and nothing is left for receiver 1
        b.run("nodes 2;link 0 1 capacity 0 delay 1;cpu 0 9;native 1 1 1 1;format 1 rates 4 4 4 4;", "place 0 1 = true", "addReceiver 1 0 4 = 0",
                "setCapacity 0 4 = 0", "addReceiver 1 1 1 = 1", "levels = 01", "rebuild = 3", "levels = 40");
        b.runAfter(WIDE, crowd(new String[] {"setCapacity 0 0 = 0"}, 0, 5, "setCapacity 0 5 = 0"), "rebuild = 100", "levels = " + twenty(5), "undo = 9",
                "levels = " + twenty(0));

        b.says("Promise 23", "If the sum of all levels is not greater then than it was before, everything becomes as it was.");
        // one level more is enough
        String link = "nodes 2;link 0 1 capacity 0 delay 1;cpu 0 9;native 1 1 1 1;format 1 rates 4 4 4 4;";
        b.run(link, "place 0 1 = true", "addReceiver 1 0 2 = 0", "setCapacity 0 4 = 0", "addReceiver 1 1 1 = 1", "levels = 01", "rebuild = 1", "levels = 20");
        b.kept(link, new String[] {"place 0 1 = true", "addReceiver 1 0 1 = 0", "setCapacity 0 4 = 0", "addReceiver 1 1 1 = 1", "levels = 01"},
                "rebuild = NOT_FOUND");
        b.kept(link, new String[] {"place 0 1 = true", "addReceiver 1 1 1 = 0", "setCapacity 0 4 = 0", "addReceiver 1 0 4 = 1", "levels = 04"},
                "rebuild = NOT_FOUND");
        // the same levels by another tree
        b.kept(Networks.RING, new String[] {"setOpen 1 false = 0", "addReceiver 4 0 3 = 0", "setOpen 1 true = 0", "parent 2 = 3"}, "rebuild = NOT_FOUND");

        b.says("Promise 23", "NOT_FOUND if it would not have grown (this is no operation).");
        b.kept(WIDE, new String[0], "rebuild = NOT_FOUND");
        b.kept(WIDE, new String[] {"addReceiver 1 0 5 = 0"}, "rebuild = NOT_FOUND");
        b.kept(WIDE, new String[] {"addReceiver 1 1 5 = 0", "addReceiver 1 0 5 = 1", "leave 1 = 5"}, "rebuild = NOT_FOUND");
    }

    private void operations() {
        b.says("Section 7", "Operations are the successful calls of ..");
        String[] before = {"addReceiver 4 0 3 = 0", "place 2 1 = true", "addReceiver 4 1 3 = 1", "levels = 31", "setCapacity 1 5 = 0"};
        for (String line : new String[] {"addReceiver 5 0 3 = 2", "addReceiver 4 2 3 = 2", "leave 0 = 3", "leave 1 = 1", "setWanted 0 1 = 1", "setWanted 1 2 = 1",
            "place 0 1 = true", "remove 2 1 = 2", "setCapacity 0 0 = 4", "setCapacity 0 9999 = 0", "setOpen 0 false = 0", "setOpen 4 false = 4",
            "setOpen 5 false = 0"}) {
            b.undone(Networks.RING, before, line);
        }
        String[] lowered = {"addReceiver 4 0 3 = 0", "setCapacity 1 2 = 2", "levels = 1", "setOpen 3 false = 0"};
        b.undone(Networks.RING, lowered, "setOpen 3 true = 0");
        String[] ready = {"addReceiver 4 0 3 = 0", "setCapacity 1 2 = 2", "setCapacity 1 6 = 0", "levels = 1"};
        b.undone(Networks.RING, ready, "raise 0 = 2");
        b.undone(Networks.RING, ready, "improve = 2");
        b.undone(Networks.RING, ready, "rebuild = 2");
        b.undone(Networks.RING, new String[] {"addReceiver 4 0 3 = 0", "setCapacity 1 2 = 2"}, "setOpen 1 false = -2");
        b.undone(Networks.RING, new String[0], "addReceiver 0 0 1 = 0");
    }

    private void undo() {
        b.says("Promise 24", "Undoes the latest operation (section 7) that has not been undone.");
        b.run(WIDE, "setCapacity 0 1 = 0", "setCapacity 0 2 = 0", "setCapacity 0 3 = 0", "undo = 2", "capacity 0 = 2", "undo = 1", "capacity 0 = 1",
                "setCapacity 0 4 = 0", "undo = 1", "capacity 0 = 1", "undo = 0", "capacity 0 = 10");

        b.says("Promise 24", "Returns the number of operations that can still be undone;");
        b.run(WIDE, "addReceiver 1 0 5 = 0", "undo = 0", "addReceiver 1 0 5 = 0", "leave 0 = 5", "undo = 1", "undo = 0");

        b.says("Promise 24", "INVALID if there is none.");
        b.kept("", new String[0], "undo = INVALID");
        b.kept(WIDE, new String[0], "undo = INVALID");
        b.kept(WIDE, new String[] {"setCapacity 0 1 = 0", "undo = 0"}, "undo = INVALID");
        b.kept(WIDE, new String[] {"setCapacity 0 1 = 0", "read " + WIDE + " = 2"}, "undo = INVALID");
        b.run(WIDE, "undo = INVALID", "undo = INVALID", "setCapacity 0 1 = 0", "undo = 0", "undo = INVALID", "capacity 0 = 10");
    }

    private void latestTen() {
        b.says("Section 7", "The latest 10 of them can be undone.");
        for (int count : new int[] {1, 9, 10, 11, 12, 19, 20, 21, 30, 31}) {
            List<String> lines = new ArrayList<>();
            for (int i = 1; i <= count; i++) {
                lines.add("setCapacity 0 " + (100 + i) + " = 0");
            }
            for (int i = 1; i <= Math.min(count, 10); i++) {
                lines.add("undo = " + (Math.min(count, 10) - i));
                lines.add("capacity 0 = " + (count == i ? 10 : 100 + count - i));
            }
            lines.add("undo = INVALID");
            lines.add("capacity 0 = " + (count <= 10 ? 10 : 100 + count - 10));
            b.run(WIDE, lines.toArray(new String[0]));
        }
        List<String> refused = new ArrayList<>();
        for (int i = 1; i <= 10; i++) {
            refused.add("setCapacity 0 " + (100 + i) + " = 0");
        }
        // what is no operation takes no place
        refused.addAll(List.of("setCapacity 0 110 = NOT_FOUND", "setCapacity 0 10000 = INVALID", "improve = NOT_FOUND", "rebuild = NOT_FOUND", "raise 0 = INVALID",
                "remove 0 1 = NOT_FOUND", "place 0 0 = false", "setOpen 0 true = NOT_FOUND", "offer 1 0 = 5", "gain 0 1 = 0", "loss 0 = 0", "append 0 0 0 0 0 = 20",
                "truncate 1 = 19", "load = INVALID", "undo = 9", "capacity 0 = 109"));
        for (int i = 8; i >= 0; i--) {
            refused.add("undo = " + i);
        }
        refused.addAll(List.of("capacity 0 = 10", "undo = INVALID"));
        b.run(WIDE, refused.toArray(new String[0]));
        // an undone operation makes room for another one
        List<String> mixed = new ArrayList<>();
        for (int i = 1; i <= 14; i++) {
            mixed.add("setCapacity 0 " + (100 + i) + " = 0");
        }
        mixed.addAll(List.of("undo = 9", "undo = 8", "undo = 7", "capacity 0 = 111", "setCapacity 0 1 = 0", "undo = 7", "capacity 0 = 111", "setCapacity 0 2 = 0",
                "setCapacity 0 3 = 0", "setCapacity 0 4 = 0", "setCapacity 0 5 = 0", "undo = 9", "capacity 0 = 4", "undo = 8", "undo = 7", "undo = 6",
                "capacity 0 = 111", "undo = 5", "undo = 4", "undo = 3", "undo = 2", "undo = 1", "undo = 0", "capacity 0 = 105", "undo = INVALID"));
        b.run(WIDE, mixed.toArray(new String[0]));
    }
}
