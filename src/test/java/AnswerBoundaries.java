import java.util.ArrayList;
import java.util.List;

/** Promises 11 to 13 and 25 to 51 at their boundaries: receivers, the tree, questions and the report. */
final class AnswerBoundaries {
    private static final String WIDE = OperationBoundaries.WIDE;
    private final Boundary b;

    AnswerBoundaries(Boundary b) {
        this.b = b;
    }

    void test() {
        calls();
        links();
        receivers();
        servedAt();
        bottleneck();
        shared();
        neediest();
        tree();
        converters();
        totals();
        busiest();
        offer();
        graftNode();
        gain();
        bestPlace();
        loss();
        criticalLink();
        report();
    }

    private void calls() {
        b.says("What it is", "An object is used for at most 512 calls after it has been made;");
        LayeredMulticast x = Checks.loaded(WIDE);
        int calls = (WIDE.length() + 19) / 20 + 2;
        for (; calls < Boundary.MOST_CALLS - 12; calls++) {
            b.due("setCapacity", x.setCapacity(0, 100 + calls), 0);
        }
        for (int left = 9; left >= 0; left--) {
            b.due("undo", x.undo(), left);
        }
        b.due("undo", x.undo(), -1);
        b.due("the 512th call", x.capacity(0), 100 + calls - 11);
    }

    private void links() {
        b.says("Promise 11", "Returns the link, open or closed;");
        b.run(Networks.RING, "linkBetween 3 5 = 5", "setOpen 5 false = 0", "linkBetween 3 5 = 5", "linkBetween 5 3 = 5", "linkBetween 0 1 = 0");

        b.says("Promise 11", "NOT_FOUND if there is none;");
        b.run(Networks.RING, "linkBetween 0 2 = NOT_FOUND", "linkBetween 2 0 = NOT_FOUND", "linkBetween 0 0 = NOT_FOUND", "linkBetween 5 5 = NOT_FOUND");
        b.run("", "linkBetween 0 1 = NOT_FOUND", "linkBetween 1 1 = NOT_FOUND");

        b.says("Promise 12", "Returns the capacity of a link.");
        b.run(WIDE, "capacity 0 = 10", "addReceiver 1 0 5 = 0", "capacity 0 = 10", "setCapacity 0 0 = 5", "capacity 0 = 0", "setCapacity 0 9999 = 0",
                "capacity 0 = 9999", "setOpen 0 false = 0", "capacity 0 = 9999");

        b.says("Promise 13", "Tells whether a link is open.", "Returns true if it is open;", "false otherwise, also for an invalid argument.");
        b.run(Networks.RING, "isOpen 5 = true", "isOpen 6 = false", "isOpen -1 = false", "setOpen 5 false = 0", "isOpen 5 = false", "isOpen 4 = true",
                "undo = 0", "isOpen 5 = true");
    }

    private void receivers() {
        b.says("Promise 25", "Returns the number of receivers that have been added.");
        b.run("", "receivers = 0", "addReceiver 0 0 1 = 0", "receivers = 1", "leave 0 = 1", "receivers = 1", "addReceiver 0 0 1 = 1", "receivers = 2", "undo = 2",
                "receivers = 1", "undo = 1", "undo = 0", "receivers = 0");
        b.runAfter("", OperationBoundaries.crowd(new String[0], 0, 1), "receivers = 20", "addReceiver 0 0 1 = NOT_FOUND", "receivers = 20");

        b.says("Promise 26", "Returns true if it has left;");
        b.run("", "hasLeft 0 = false", "addReceiver 0 0 1 = 0", "hasLeft 0 = false", "leave 0 = 1", "hasLeft 0 = true", "hasLeft 1 = false", "hasLeft -1 = false",
                "undo = 1", "hasLeft 0 = false");
        b.runAfter("", OperationBoundaries.crowd(new String[0], 0, 1), "leave 19 = 0", "hasLeft 19 = true", "hasLeft 18 = false", "hasLeft 20 = false");

        b.says("Promise 27", "- `receiver`: the number of a receiver, which may have left");
        b.run("", "level 0 = INVALID", "addReceiver 0 0 1 = 0", "level 0 = 1", "level 1 = INVALID", "level -1 = INVALID", "leave 0 = 1", "level 0 = 0", "undo = 1",
                "level 0 = 1", "undo = 0", "level 0 = INVALID");

        b.says("Promise 28", "Returns the wanted level of a receiver.");
        b.run(WIDE, "addReceiver 1 0 5 = 0", "addReceiver 1 0 1 = 1", "wanted 0 = 5", "wanted 1 = 1", "setCapacity 0 0 = 6", "wanted 0 = 5", "setWanted 0 1 = 0",
                "wanted 0 = 1", "leave 0 = 0", "wanted 0 = INVALID");

        b.says("Promise 30", "NOT_FOUND if its level is 0 or the path is not so long;", "- `k`: index in the path, 0 for its own node");
        b.run(Networks.row("native 1;format 1 rates 1;"), "addReceiver 15 0 1 = 0", "pathNode 0 0 = 15", "pathNode 0 14 = 1", "pathNode 0 15 = 0",
                "pathNode 0 16 = NOT_FOUND", "pathNode 0 17 = NOT_FOUND", "pathNode 0 2147483647 = NOT_FOUND", "addReceiver 0 0 1 = 1", "pathNode 1 0 = 0",
                "pathNode 1 1 = NOT_FOUND", "addReceiver 15 1 1 = 2", "pathNode 2 0 = NOT_FOUND", "pathNode 2 -1 = INVALID", "setOpen 0 false = 1",
                "pathNode 0 0 = NOT_FOUND");
    }

    private void servedAt() {
        b.says("Promise 29", "Returns the node at which a receiver is served (section 5).");
        b.run(Networks.CHAIN, "place 0 1 = true", "addReceiver 2 1 1 = 0", "servedAt 0 = 0", "place 2 1 = true", "servedAt 0 = 2", "place 1 1 = true",
                "servedAt 0 = 2", "remove 2 1 = 0", "servedAt 0 = 1");

        b.says("Promise 29", "NOT_FOUND if its level is 0, its format is 0, or it is not served at any node;");
        b.run(Networks.CHAIN, "place 0 1 = true", "place 1 2 = true", "addReceiver 2 1 1 = 0", "addReceiver 2 0 1 = 1", "setCapacity 1 2 = 1", "levels = 10",
                "servedAt 0 = 0", "servedAt 1 = NOT_FOUND", "setCapacity 1 3 = 0", "raise 1 = 1", "servedAt 1 = NOT_FOUND", "remove 0 1 = 1",
                "servedAt 0 = NOT_FOUND", "place 2 1 = true", "servedAt 0 = NOT_FOUND", "raise 0 = 1", "servedAt 0 = 2");
    }

    private void bottleneck() {
        b.says("Promise 31", "Returns the link of the path of a receiver with the least capacity that is left (capacity minus load).");
        // the upper link is the wider one, but most of it is used
        b.run("nodes 4;link 0 1 capacity 10 delay 1;link 1 2 capacity 5 delay 1;link 1 3 capacity 9 delay 1;native 1 5 4;", "addReceiver 2 0 1 = 0",
                "bottleneck 0 = 1", "addReceiver 3 0 3 = 1", "levels = 12", "bottleneck 0 = 0", "bottleneck 1 = 2", "setCapacity 0 6 = 0", "bottleneck 1 = 0",
                "setWanted 1 1 = 1", "bottleneck 0 = 1", "bottleneck 1 = 0");

        b.says("Promise 31", "Returns the link, among several the smallest;");
        b.run("nodes 3;link 1 2 capacity 3 delay 1;link 0 1 capacity 3 delay 1;native 1;", "addReceiver 2 0 1 = 0", "bottleneck 0 = 0", "setCapacity 0 4 = 0",
                "bottleneck 0 = 1", "setCapacity 1 5 = 0", "bottleneck 0 = 0", "setCapacity 0 1 = 0", "setCapacity 1 1 = 0", "bottleneck 0 = 0");
        b.run("nodes 3;link 0 1 capacity 3 delay 1;link 1 2 capacity 3 delay 1;native 1;", "addReceiver 2 0 1 = 0", "bottleneck 0 = 0", "setCapacity 0 4 = 0",
                "bottleneck 0 = 1");

        b.says("Promise 31", "NOT_FOUND if its level is 0 or it is at the source;");
        b.run(WIDE, "addReceiver 0 0 5 = 0", "level 0 = 5", "bottleneck 0 = NOT_FOUND", "addReceiver 1 0 1 = 1", "bottleneck 1 = 0", "setCapacity 0 0 = 1",
                "bottleneck 1 = NOT_FOUND", "setCapacity 0 1 = 0", "raise 1 = 1", "bottleneck 1 = 0");
    }

    private void shared() {
        b.says("Promise 32", "- `other`: a receiver, which may be the same");
        b.run(Networks.row("native 1;"), "addReceiver 15 0 1 = 0", "addReceiver 1 0 1 = 1", "addReceiver 0 0 1 = 2", "shared 0 0 = 15", "shared 1 1 = 1",
                "shared 2 2 = 0");

        b.says("Promise 32", "Returns the number of common links, 0 if one of the levels is 0;");
        b.run(Networks.RING, "addReceiver 4 0 3 = 0", "addReceiver 2 0 1 = 1", "addReceiver 1 0 1 = 2", "addReceiver 5 0 1 = 3", "addReceiver 0 0 1 = 4",
                "addReceiver 4 1 1 = 5", "shared 0 1 = 2", "shared 1 0 = 2", "shared 0 2 = 1", "shared 0 3 = 0", "shared 0 4 = 0", "shared 0 5 = 0",
                "shared 5 0 = 0", "shared 5 5 = 0", "place 4 1 = true", "shared 5 0 = 0", "setOpen 4 false = 3", "shared 0 1 = 0", "shared 0 0 = 0",
                "shared 1 2 = 1");
    }

    private void neediest() {
        b.says("Promise 33", "Returns the receiver that lacks most: the one that has not left for which the wanted level minus the level is greatest.");
        b.run("nodes 2;native 1 1 1 1 1;", "addReceiver 1 0 1 = 0", "neediest = 0", "addReceiver 1 0 5 = 1", "neediest = 1", "addReceiver 1 0 4 = 2", "neediest = 1",
                "setWanted 1 3 = 0", "neediest = 2", "leave 2 = 0", "neediest = 1", "leave 1 = 0", "neediest = 0", "undo = 5", "neediest = 1");

        b.says("Promise 33", "Returns the receiver, among several the smallest;");
        b.run("nodes 2;native 1 1 1 1 1;", "addReceiver 1 0 5 = 0", "addReceiver 1 0 5 = 1", "neediest = 0", "setWanted 0 4 = 0", "neediest = 1", "setWanted 1 4 = 0",
                "neediest = 0", "leave 0 = 0", "neediest = 1");

        b.says("Promise 33", "NOT_FOUND if all receivers that have not left have their wanted levels.");
        b.run(WIDE, "neediest = NOT_FOUND", "addReceiver 1 0 5 = 0", "addReceiver 0 0 1 = 1", "neediest = NOT_FOUND", "setCapacity 0 4 = 1", "neediest = 0",
                "setWanted 0 4 = 4", "neediest = NOT_FOUND", "addReceiver 1 1 1 = 2", "neediest = 2", "leave 2 = 0", "neediest = NOT_FOUND");
    }

    private void tree() {
        b.says("Promise 34", "Returns true if it is;");
        b.run(WIDE, "isInTree 0 = true", "isInTree 1 = false", "isInTree 2 = false", "addReceiver 1 0 1 = 0", "isInTree 1 = true", "leave 0 = 1",
                "isInTree 1 = false", "isInTree 0 = true");

        b.says("Promise 35", "NOT_FOUND for the source and for a node that is not in the tree;");
        b.run(WIDE, "parent 0 = NOT_FOUND", "parent 1 = NOT_FOUND", "addReceiver 1 0 1 = 0", "parent 0 = NOT_FOUND", "parent 1 = 0", "setCapacity 0 0 = 1",
                "parent 1 = NOT_FOUND");

        b.says("Promise 36", "NOT_FOUND if it is not in the tree;");
        b.run(WIDE, "delay 0 = 0", "delay 1 = NOT_FOUND", "addReceiver 1 0 1 = 0", "delay 0 = 0", "delay 1 = 1", "setOpen 0 false = 1", "delay 1 = NOT_FOUND");

        b.says("Promise 37", "Returns the number of tree nodes below a node, itself not counted.");
        b.run(Networks.row("native 1;"), "below 0 = 0", "addReceiver 15 0 1 = 0", "below 0 = 15", "below 1 = 14", "below 14 = 1", "below 15 = 0");

        b.says("Promise 37", "NOT_FOUND if it is not in the tree;");
        b.run(WIDE, "below 0 = 0", "below 1 = NOT_FOUND", "addReceiver 1 0 1 = 0", "below 0 = 1", "below 1 = 0", "leave 0 = 1", "below 1 = NOT_FOUND",
                "below 0 = 0");

        b.says("Promise 38", "0 if the node is not in the tree;");
        b.run(WIDE, "place 0 1 = true", "addReceiver 1 1 5 = 0", "demand 1 1 = 5", "demand 1 0 = 0", "demand 0 1 = 5", "demand 0 0 = 5", "setOpen 0 false = 5",
                "isInTree 1 = false", "demand 1 1 = 0", "demand 1 0 = 0", "demand 0 1 = 0", "demand 0 0 = 0");
    }

    private void converters() {
        b.says("Promise 41", "Returns true if it is;");
        b.run(Networks.CHAIN, "isPlaced 2 2 = false", "place 2 2 = true", "isPlaced 2 2 = true", "isPlaced 2 1 = false", "isPlaced 1 2 = false", "isPlaced 2 0 = false",
                "isPlaced 2 3 = false", "isPlaced 3 2 = false", "remove 2 2 = 0", "isPlaced 2 2 = false", "undo = 1", "isPlaced 2 2 = true", "undo = 0",
                "isPlaced 2 2 = false");
    }

    private void totals() {
        b.says("Promise 42", "- `what`: 0 the sum of all levels, 1 the sum of the wanted levels of all receivers that have not left, ..");
        b.run("", "total -1 = INVALID", "total 0 = 0", "total 1 = 0", "total 2 = 0", "total 3 = 1", "total 4 = 0", "total 5 = 0", "total 6 = 0", "total 7 = 0",
                "total 8 = INVALID");
        // as much as there can be: five levels for each of twenty receivers
        b.runAfter(WIDE, OperationBoundaries.crowd(new String[] {"place 0 1 = true"}, 1, 5), "total 0 = 100", "total 1 = 100", "total 2 = 5", "total 3 = 2",
                "total 4 = 1", "total 5 = 1", "total 6 = 20", "total 7 = 20", "setCapacity 0 4 = 20", "total 0 = 80", "total 1 = 100", "total 2 = 4",
                "total 6 = 0", "total 7 = 20", "leave 0 = 4", "total 0 = 76", "total 1 = 95", "total 7 = 19", "setWanted 1 4 = 4", "total 1 = 94", "total 6 = 1",
                "remove 0 1 = 76", "total 0 = 0", "total 4 = 0", "total 3 = 1", "total 5 = 0", "total 6 = 0");
        // who has left has its wanted level in no way
        b.run(WIDE, "addReceiver 1 0 1 = 0", "total 6 = 1", "leave 0 = 1", "total 6 = 0", "total 1 = 0");
    }

    private void busiest() {
        b.says("Promise 43", "Returns a link by its rank: links are ordered by descending utilisation (load times 1000, divided by the capacity and rounded down;");
        String two = "nodes 3;link 0 1 capacity 9 delay 1;link 0 2 capacity # delay 1;native 1;";
        // one thousandth is the least that counts
        b.run(two.replace("#", "1000"), "addReceiver 2 0 1 = 0", "busiest 0 = 1", "busiest 1 = 0", "setCapacity 1 1001 = 0", "busiest 0 = 0", "busiest 1 = 1");
        b.run(two.replace("#", "1"), "addReceiver 2 0 1 = 0", "addReceiver 1 0 1 = 1", "busiest 0 = 1", "busiest 1 = 0", "setCapacity 0 1 = 0", "busiest 0 = 0",
                "busiest 1 = 1");
        // 2 of 2000 and 2 of 1999 are both one thousandth, 2 of 1000 are two
        b.run("nodes 3;link 0 1 capacity 2000 delay 1;link 0 2 capacity 1999 delay 1;native 2;", "addReceiver 1 0 1 = 0", "addReceiver 2 0 1 = 1", "busiest 0 = 0",
                "setCapacity 1 1001 = 0", "busiest 0 = 0", "setCapacity 1 1000 = 0", "busiest 0 = 1", "setCapacity 0 1000 = 0", "busiest 0 = 0");
        // the greatest load there can be on a link
        b.run("nodes 3;link 0 1 capacity 9999 delay 1;link 0 2 capacity 4996 delay 1;cpu 0 999;native 999 999 999 999 999;format 1 rates 999 999 999 999 999;",
                "place 0 1 = true", "addReceiver 1 0 5 = 0", "addReceiver 1 1 5 = 1", "addReceiver 2 0 5 = 2", "levels = 555", "linkLoad 0 = 9990",
                "busiest 0 = 0", "setCapacity 1 4995 = 0", "busiest 0 = 1");

        b.says("Promise 43", "0 if the load is 0), links with the same utilisation by ascending numbers.");
        b.run(Networks.RING, "busiest 0 = 0", "busiest 1 = 1", "busiest 5 = 5", "setCapacity 0 0 = 0", "setCapacity 3 0 = 0", "busiest 0 = 0", "busiest 3 = 3",
                "addReceiver 5 0 2 = 0", "busiest 0 = 5", "busiest 1 = 2", "busiest 2 = 0", "busiest 3 = 1", "busiest 4 = 3", "busiest 5 = 4");

        // the loads are those of now
        b.run("nodes 3;link 0 1 capacity 9 delay 1;link 0 2 capacity 9 delay 1;native 1 1 1;", "addReceiver 1 0 1 = 0", "addReceiver 2 0 2 = 1", "busiest 0 = 1",
                "leave 1 = 2", "busiest 0 = 0", "undo = 2", "busiest 0 = 1", "setWanted 1 1 = 1", "busiest 0 = 0", "setWanted 1 3 = 1", "setCapacity 1 1 = 0",
                "setCapacity 0 1 = 0", "raise 1 = NOT_FOUND", "busiest 0 = 0", "busiest 1 = 1");

        b.says("Promise 43", "NOT_FOUND if there are not so many links.");
        b.run("", "busiest 0 = NOT_FOUND", "busiest 2147483647 = NOT_FOUND");
        b.run(WIDE, "busiest 0 = 0", "busiest 1 = NOT_FOUND");
        b.run(Networks.links(32) + "native 1;", "busiest 0 = 0", "busiest 31 = 31", "busiest 32 = NOT_FOUND", "busiest 33 = NOT_FOUND",
                "addReceiver 15 0 1 = 0", "busiest 0 = 14", "busiest 1 = 0", "busiest 31 = 31", "busiest 32 = NOT_FOUND", "total 2 = 1");
    }

    private void offer() {
        b.says("Promise 44", "Returns the level that a new receiver at a node that wants level L would get.");
        b.run(WIDE, "offer 0 0 = 5", "offer 1 0 = 5", "offer 1 1 = 0", "setCapacity 0 4 = 0", "offer 1 0 = 4", "setCapacity 0 0 = 0", "offer 1 0 = 0",
                "offer 0 0 = 5", "setCapacity 0 5 = 0", "offer 1 0 = 5", "setOpen 0 false = 0", "offer 1 0 = 0", "place 0 1 = true", "offer 0 1 = 5");
        // also when there is no place for one more, and receiver 19 takes what the link can carry
        String narrow = "nodes 2;link 0 1 capacity 3 delay 1;cpu 0 9;native 1;format 1 rates 3;";
        String[] twenty = OperationBoundaries.crowd(new String[] {"setCapacity 0 0 = 0", "place 0 1 = true"}, 1, 1, "setCapacity 0 3 = 0", "raise 19 = 1");
        b.kept(narrow, twenty, "offer 1 0 = 0", "offer 1 1 = 1", "offer 0 0 = 1");
        b.kept(WIDE, OperationBoundaries.crowd(new String[0], 0, 1), "offer 1 0 = 5", "offer 1 1 = 0");
        b.runAfter(WIDE, OperationBoundaries.crowd(new String[0], 0, 4), "setCapacity 0 4 = 0", "offer 1 0 = 4", "levels = 44444444444444444444", "receivers = 20");
    }

    private void graftNode() {
        b.says("Promise 45", "NOT_FOUND if there is no such path, it is not so long, or the node is in the tree;",
                "- `node`: a node that is not in the tree", "- `k`: index in the path, 0 for its first node (in the tree)", "- `level`: a level, 1 to L");
        b.run(WIDE, "graftNode 1 0 1 0 = 0", "graftNode 1 0 1 1 = 1", "graftNode 1 0 1 2 = NOT_FOUND", "graftNode 1 0 1 2147483647 = NOT_FOUND",
                "graftNode 1 0 5 1 = 1", "graftNode 1 0 6 1 = INVALID", "graftNode 1 0 0 1 = INVALID", "graftNode 0 0 1 0 = NOT_FOUND", "setCapacity 0 5 = 0",
                "graftNode 1 0 5 1 = 1", "setCapacity 0 4 = 0", "graftNode 1 0 5 0 = NOT_FOUND", "graftNode 1 0 4 0 = 0", "graftNode 1 1 5 0 = NOT_FOUND",
                "graftNode 1 1 4 1 = 1", "setOpen 0 false = 0", "graftNode 1 0 1 0 = NOT_FOUND", "setOpen 0 true = 0", "addReceiver 1 0 1 = 0",
                "graftNode 1 0 1 0 = NOT_FOUND", "graftNode 1 0 1 1 = NOT_FOUND", "leave 0 = 1", "graftNode 1 0 1 0 = 0");
        b.run("", "graftNode 1 0 1 0 = NOT_FOUND", "graftNode 0 0 1 0 = NOT_FOUND");
    }

    private void gain() {
        b.says("Promise 46", "Returns by how much the sum of all levels would grow if a converter were placed and then improve() were called.");
        b.run(WIDE, "gain 0 1 = 0", "addReceiver 1 1 5 = 0", "gain 0 1 = 5", "gain 1 1 = 0", "leave 0 = 0", "gain 0 1 = 0");
        b.runAfter(WIDE, OperationBoundaries.crowd(new String[0], 1, 5), "gain 0 1 = 100", "total 0 = 0", "gain 0 1 = 100", "total 4 = 0", "place 0 1 = true",
                "improve = 100");
        // what the converter does not bring counts, too, if improve() would raise it
        b.run(WIDE, "setCapacity 0 0 = 0", "addReceiver 1 0 5 = 0", "setCapacity 0 1 = 0", "gain 0 1 = 1", "gain 1 1 = 1", "level 0 = 0");

        b.says("Promise 46", "NOT_FOUND if the converter is there already or the tree would not be valid then;");
        b.run(WIDE, "place 0 1 = true", "gain 0 1 = NOT_FOUND", "gain 1 1 = 0", "remove 0 1 = 0", "gain 0 1 = 0");
        String cpu = "nodes 2;link 0 1 capacity 99 delay 1;cpu 0 99;cpu 1 #;native 1 1;format 3 rates 1 1;";
        String[] served = {"place 0 1 = true", "addReceiver 1 1 2 = 0", "level 0 = 2"};
        b.kept(cpu.replace("#", "6"), served, "gain 1 1 = 0", "gain 0 1 = NOT_FOUND");
        b.kept(cpu.replace("#", "5"), served, "gain 1 1 = NOT_FOUND", "gain 0 1 = NOT_FOUND");
    }

    private void bestPlace() {
        b.says("Promise 47", "Returns the node with the greatest `gain` for a format.");
        b.run(Networks.RING, "addReceiver 4 0 3 = 0", "addReceiver 2 1 3 = 1", "addReceiver 4 1 2 = 2", "gain 0 1 = 0", "gain 1 1 = 2", "gain 2 1 = 3", "gain 4 1 = 0",
                "bestPlace 1 = 2", "leave 2 = 0", "gain 1 1 = 1", "gain 2 1 = 2", "bestPlace 1 = 2", "place 2 1 = true", "gain 2 1 = NOT_FOUND", "gain 3 1 = 2", "gain 0 1 = 2",
                "bestPlace 1 = 0");

        b.says("Promise 47", "Returns the node, among several the smallest;");
        b.run("nodes 3;link 0 1 capacity 9 delay 1;link 1 2 capacity 9 delay 1;cpu 1 9;cpu 2 9;native 1 1;format 1 rates 1 1;", "bestPlace 1 = 0",
                "addReceiver 2 1 2 = 0", "gain 0 1 = 0", "gain 1 1 = 2", "gain 2 1 = 2", "bestPlace 1 = 1", "place 0 1 = true", "bestPlace 1 = 1", "leave 0 = 0",
                "bestPlace 1 = 1", "place 1 1 = true", "bestPlace 1 = 2");

        b.says("Promise 47", "NOT_FOUND if gain() is NOT_FOUND for all nodes;");
        b.run("nodes 2;native 1;format 1 rates 1;", "bestPlace 1 = 0", "place 0 1 = true", "bestPlace 1 = 1", "place 1 1 = true", "bestPlace 1 = NOT_FOUND",
                "remove 1 1 = 0", "bestPlace 1 = 1");
        b.run(Networks.CHAIN, "place 0 1 = true", "addReceiver 2 1 4 = 0", "gain 0 1 = NOT_FOUND", "gain 1 1 = NOT_FOUND", "gain 2 1 = NOT_FOUND",
                "bestPlace 1 = NOT_FOUND", "bestPlace 2 = 0", "setWanted 0 3 = 3", "bestPlace 1 = 1");
    }

    private void loss() {
        b.says("Promise 48", "Returns by how much the sum of all levels would become smaller if a link were closed (as setOpen() returns it).");
        b.kept(Networks.RING, new String[] {"addReceiver 4 0 3 = 0", "addReceiver 5 0 2 = 1"}, "loss 0 = 0", "loss 1 = 0", "loss 2 = 0", "loss 3 = 0", "loss 4 = 3",
                "loss 5 = 2");
        b.runAfter(WIDE, OperationBoundaries.crowd(new String[0], 0, 5), "loss 0 = 100", "total 0 = 100", "isOpen 0 = true");

        b.says("Promise 48", "Returns the loss, which may be negative;");
        b.kept(Networks.RING, new String[] {"addReceiver 4 0 3 = 0", "setCapacity 1 2 = 2", "levels = 1"}, "loss 0 = -2", "loss 1 = -2", "loss 2 = 0", "loss 4 = 1");
        b.kept(Networks.RING, new String[] {"addReceiver 4 0 3 = 0", "setCapacity 1 4 = 1", "levels = 2"}, "loss 0 = -1", "loss 1 = -1", "loss 2 = 0", "loss 4 = 2");

        b.says("Promise 48", "0 if the link is closed;");
        b.run(WIDE, "addReceiver 1 0 5 = 0", "loss 0 = 5", "setOpen 0 false = 5", "loss 0 = 0", "setOpen 0 true = 0", "loss 0 = 0", "improve = 5", "loss 0 = 5");
    }

    private void criticalLink() {
        b.says("Promise 49", "Returns the open link with the greatest `loss`.");
        b.run(Networks.RING, "addReceiver 5 0 2 = 0", "criticalLink = 5", "addReceiver 4 0 3 = 1", "criticalLink = 4", "setOpen 4 false = 3", "criticalLink = 5",
                "setOpen 5 false = 2", "criticalLink = 0", "setOpen 0 false = 0", "criticalLink = 1");
        // a negative loss is less than none
        b.run("nodes 4;link 0 1 capacity 1 delay 1;link 0 2 capacity 2 delay 1;link 0 3 capacity 9 delay 9;link 3 1 capacity 9 delay 9;link 3 2 capacity 9 delay 9;"
                        + "native 1 1 1;",
                "addReceiver 1 0 1 = 0", "setWanted 0 3 = 1", "addReceiver 2 0 2 = 1", "setWanted 1 3 = 2", "parent 1 = 0", "parent 2 = 0", "loss 0 = -2", "loss 1 = -1",
                "loss 2 = 0", "criticalLink = 2", "setOpen 2 false = 0", "setOpen 3 false = 0", "setOpen 4 false = 0", "loss 0 = 1", "loss 1 = 2", "criticalLink = 1");
        b.run("nodes 3;link 0 1 capacity 1 delay 1;link 1 2 capacity 2 delay 1;link 0 2 capacity 3 delay 9;native 1 1 1;", "addReceiver 2 0 1 = 0", "setWanted 0 3 = 1",
                "loss 0 = -2", "loss 1 = -2", "loss 2 = 0", "criticalLink = 2");

        b.says("Promise 49", "Returns the link, among several the smallest;");
        b.run(Networks.RING, "criticalLink = 0", "setOpen 0 false = 0", "criticalLink = 1", "setOpen 1 false = 0", "criticalLink = 2");
        b.run(Networks.row("native 1;"), "addReceiver 15 0 1 = 0", "loss 0 = 1", "loss 14 = 1", "criticalLink = 0", "addReceiver 14 0 1 = 1", "criticalLink = 0",
                "setOpen 0 false = 2", "criticalLink = 1");

        b.says("Promise 49", "NOT_FOUND if there is no open link.");
        b.run("", "criticalLink = NOT_FOUND");
        b.run(WIDE, "criticalLink = 0", "setOpen 0 false = 0", "criticalLink = NOT_FOUND", "setOpen 0 true = 0", "criticalLink = 0");
    }

    private void report() {
        b.says("Promise 50", "It has a line for each tree node other than the source, in ascending order: ..", "Numbers are in decimal.");
        b.run(WIDE, "reportLength = 0", "report = ", "addReceiver 0 0 5 = 0", "reportLength = 0", "addReceiver 1 0 1 = 1", "report = 1 0 10|", "reportLength = 7",
                "leave 1 = 1", "reportLength = 0");
        // what is asked now
        b.run(WIDE, "addReceiver 1 0 1 = 0", "addReceiver 1 0 5 = 1", "report = 1 0 50|", "leave 1 = 5", "report = 1 0 10|", "undo = 2", "report = 1 0 50|",
                "setWanted 1 2 = 2", "report = 1 0 20|", "setCapacity 0 2 = 0", "setWanted 1 3 = 2", "raise 1 = NOT_FOUND", "report = 1 0 20|");
        String format = "format 1 rates 1 1 1 1 1;";
        String row = Networks.row("cpu 0 15;native 1 1 1 1 1;" + format + format + format);
        List<String> lines = new ArrayList<>(List.of("place 0 1 = true", "place 0 2 = true", "place 0 3 = true", "addReceiver 15 0 5 = 0", "addReceiver 15 1 5 = 1",
                "addReceiver 15 2 5 = 2", "addReceiver 15 3 5 = 3", "reportLength = 146"));
        StringBuilder due = new StringBuilder();
        for (int node = 1; node < 16; node++) {
            due.append(node).append(' ').append(node - 1).append(" 5555|");
        }
        lines.add("report = " + due);
        b.run(row, lines.toArray(new String[0]));

        b.says("Promise 51", "NOT_FOUND if the report is not so long.", "- `i`: index, from 0");
        b.run("", "reportByte 0 = NOT_FOUND", "reportByte -1 = INVALID");
        b.run(WIDE, "addReceiver 1 0 5 = 0", "reportByte -1 = INVALID", "reportByte 0 = 49", "reportByte 1 = 32", "reportByte 2 = 48", "reportByte 3 = 32",
                "reportByte 4 = 53", "reportByte 5 = 48", "reportByte 6 = 10", "reportByte 7 = NOT_FOUND", "reportByte 8 = NOT_FOUND",
                "reportByte 2147483647 = NOT_FOUND", "reportByte -2147483648 = INVALID", "leave 0 = 5", "reportByte 0 = NOT_FOUND");
    }
}
