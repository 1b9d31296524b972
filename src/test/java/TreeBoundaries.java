import java.util.ArrayList;
import java.util.List;

/** Sections 2 to 5 at their boundaries: receivers, converters, the tree, joining and lowering. */
final class TreeBoundaries {
    private final Boundary b;

    TreeBoundaries(Boundary b) {
        this.b = b;
    }

    void test() {
        receivers();
        converters();
        demands();
        loads();
        validity();
        pruning();
        trying();
        graftPaths();
        failing();
        joining();
        paths();
        lowering();
        orderOfViolations();
    }

    // ---- section 2

    private void receivers() {
        b.says("Section 2", "There are at most 20 receivers, numbered from 0 in the order in which they are added.");
        List<String> lines = new ArrayList<>();
        for (int i = 0; i < 20; i++) {
            lines.add("receivers = " + i);
            lines.add("level " + i + " = INVALID");
            lines.add("addReceiver " + i % 2 + " 0 1 = " + i);
            lines.add("level " + i + " = " + (i % 2 == 0 ? 1 : 0));
        }
        lines.addAll(List.of("receivers = 20", "addReceiver 0 0 1 = NOT_FOUND", "receivers = 20", "level 19 = 0", "level 20 = INVALID"));
        b.run("", lines.toArray(new String[0]));

        b.says("Section 2", "A receiver is at a node, and it has a format, a wanted level (1 to L) and a level (0 to the wanted level);");
        b.run(Networks.RING, "addReceiver 4 0 0 = INVALID", "addReceiver 4 0 1 = 0", "addReceiver 4 0 3 = 1", "addReceiver 4 0 4 = INVALID",
                "levels = 13", "wanted 0 = 1", "wanted 1 = 3", "raise 0 = NOT_FOUND", "raise 1 = NOT_FOUND", "addReceiver 4 1 3 = 2", "level 2 = 0",
                "wanted 2 = 3", "setWanted 1 1 = 1", "levels = 110");

        b.says("Section 2", "it may have left.", "A receiver that has left has the level 0.");
        b.run(Networks.RING, "addReceiver 4 0 3 = 0", "hasLeft 0 = false", "level 0 = 3", "leave 0 = 3", "hasLeft 0 = true", "level 0 = 0",
                "improve = NOT_FOUND", "rebuild = NOT_FOUND", "level 0 = 0", "total 0 = 0", "total 7 = 0");
    }

    private void converters() {
        b.says("Section 2", "A converter is placed at a node for a format other than 0;");
        b.run(Networks.CHAIN, "place 0 0 = false", "place 0 1 = true", "place 0 2 = true", "place 0 3 = false", "place 2 1 = true", "place 3 1 = false",
                "isPlaced 0 0 = false", "isPlaced 0 1 = true", "isPlaced 0 2 = true", "isPlaced 0 3 = false", "isPlaced 2 1 = true", "total 4 = 3");

        b.says("Section 2", "there is at most one for the same node and format.");
        List<String> lines = new ArrayList<>();
        for (int i = 0; i < 48; i++) {
            lines.add("place " + i / 3 + " " + (1 + i % 3) + " = true");
        }
        lines.add("total 4 = 48");
        for (int i = 0; i < 48; i++) {
            lines.add("place " + i / 3 + " " + (1 + i % 3) + " = false");
        }
        lines.addAll(List.of("total 4 = 48", "undo = 9", "total 4 = 47", "remove 15 3 = NOT_FOUND", "remove 15 2 = 0", "remove 15 2 = NOT_FOUND",
                "total 4 = 46"));
        b.run("nodes 16;native 1;format 1 rates 1;format 1 rates 1;format 1 rates 1;", lines.toArray(new String[0]));
    }

    // ---- section 3

    private void demands() {
        b.says("Section 3", "The tree consists of the source and other nodes, each of which has a parent in the tree ..");
        b.run(Networks.RING, "total 3 = 1", "isInTree 0 = true", "parent 0 = NOT_FOUND", "addReceiver 4 0 1 = 0", "parent 4 = 2", "isInTree 2 = true",
                "parent 2 = 1", "isInTree 1 = true", "parent 1 = 0", "total 3 = 4", "parent 0 = NOT_FOUND");

        b.says("Section 3", "- The demand of a tree node for a format is the greatest of these: the levels of the receivers of this format at the node;");
        b.run(Networks.CHAIN, "demand 1 0 = 0", "addReceiver 1 0 1 = 0", "demand 1 0 = 1", "addReceiver 1 0 3 = 1", "demand 1 0 = 3",
                "addReceiver 1 0 3 = 2", "demand 1 0 = 3", "addReceiver 1 1 4 = 3", "demand 1 1 = 0", "leave 1 = 3", "demand 1 0 = 3", "leave 2 = 3",
                "demand 1 0 = 1", "leave 0 = 1", "demand 1 0 = 0");

        b.says("Section 3", "what the children of the node ask of it in this format;");
        b.run(Networks.CHAIN, "addReceiver 2 0 4 = 0", "demand 1 0 = 4", "addReceiver 1 0 2 = 1", "demand 1 0 = 4", "leave 0 = 4", "demand 1 0 = 2",
                "addReceiver 2 0 1 = 2", "demand 1 0 = 2", "demand 2 0 = 1", "demand 0 0 = 2");

        b.says("Section 3", "and, for format 0, the demands of the node for all formats for which a converter is placed at it.");
        b.run(Networks.CHAIN, "place 0 1 = true", "place 0 2 = true", "demand 0 0 = 0", "addReceiver 1 1 2 = 0", "demand 0 1 = 2", "demand 0 0 = 2",
                "addReceiver 1 2 3 = 1", "demand 0 2 = 3", "demand 0 0 = 3", "addReceiver 0 0 3 = 2", "demand 0 0 = 3", "addReceiver 0 0 4 = 3",
                "demand 0 0 = 4", "demand 1 0 = 0", "demand 1 1 = 2");

        b.says("Section 3", "- What a tree node other than the source asks of its parent in a format is its demand for it, but 0 if a converter "
                + "for this format is placed at the node.");
        b.run(Networks.CHAIN, "place 1 1 = true", "addReceiver 2 1 3 = 0", "demand 1 1 = 3", "demand 0 1 = 0", "report = 1 0 300|2 1 030|");
        b.run(Networks.CHAIN, "place 0 1 = true", "addReceiver 2 1 3 = 0", "demand 1 1 = 3", "demand 0 1 = 3", "report = 1 0 030|2 1 030|");
    }

    private void loads() {
        b.says("Section 3", "- The load of an uplink of a node is the sum over all formats f of rate(f, what the node asks in f).");
        b.run("nodes 2;link 0 1 capacity 9999 delay 1;cpu 0 999;native 999 999;format 1 rates 999 999;format 1 rates 999 999;format 1 rates 999 999;",
                "linkLoad 0 = 0", "place 0 1 = true", "place 0 2 = true", "place 0 3 = true", "addReceiver 1 0 2 = 0", "linkLoad 0 = 1998",
                "addReceiver 1 1 2 = 1", "addReceiver 1 2 2 = 2", "addReceiver 1 3 1 = 3", "linkLoad 0 = 6993", "addReceiver 1 3 2 = 4", "linkLoad 0 = 7992",
                "addReceiver 1 0 1 = 5", "linkLoad 0 = 7992", "total 2 = 7992");

        b.says("Section 3", "The load of any other link is 0.");
        // link 3 connects two tree nodes, but is nobody's uplink
        b.run(Networks.RING, "linkLoad 0 = 0", "linkLoad 5 = 0", "addReceiver 4 0 3 = 0", "addReceiver 3 0 3 = 1", "isInTree 2 = true", "isInTree 3 = true",
                "linkLoad 3 = 0", "linkLoad 5 = 0", "linkLoad 4 = 5", "setOpen 4 false = 3", "linkLoad 4 = 0", "linkLoad 0 = 0", "linkLoad 2 = 5",
                "leave 1 = 3", "linkLoad 2 = 0", "total 2 = 0");

        b.says("Section 3", "- The processor load of a tree node is the sum, over all formats f for which a converter is placed at it, of the "
                + "conversion cost of f times its demand for f.");
        b.run(Networks.CHAIN, "place 0 1 = true", "place 0 2 = true", "cpuLoad 0 = 0", "addReceiver 1 1 1 = 0", "cpuLoad 0 = 2", "addReceiver 1 2 4 = 1",
                "cpuLoad 0 = 6", "addReceiver 1 1 4 = 2", "cpuLoad 0 = 12", "addReceiver 0 0 4 = 3", "cpuLoad 0 = 12", "cpuLoad 1 = 0");

        b.says("Section 3", "The processor load of any other node is 0.");
        b.run(Networks.CHAIN, "place 1 1 = true", "cpuLoad 1 = 0", "addReceiver 1 1 3 = 0", "cpuLoad 1 = 6", "leave 0 = 3", "isInTree 1 = false",
                "cpuLoad 1 = 0");

        b.says("Section 3", "- The delay of a tree node is the sum of the delays of the links between it and the source.");
        b.run(Networks.row("native 1;"), "delay 0 = 0", "total 5 = 0", "addReceiver 15 0 1 = 0", "delay 0 = 0", "delay 1 = 99", "delay 14 = 1386",
                "delay 15 = 1485", "total 5 = 1485");
    }

    private void validity() {
        b.says("Section 3", "The tree is valid if the load of each link is at most its capacity, the processor load of each node is at most its "
                + "processor capacity, and the demand of the source is 0 for each format other than 0 for which no converter is placed at the source.");
        String link = "nodes 2;link 0 1 capacity # delay 1;native 1 2;";
        b.run(link.replace("#", "3"), "addReceiver 1 0 2 = 0", "level 0 = 2", "linkLoad 0 = 3");
        b.run(link.replace("#", "2"), "addReceiver 1 0 2 = 0", "level 0 = 1", "linkLoad 0 = 1");
        b.run(link.replace("#", "1"), "addReceiver 1 0 2 = 0", "level 0 = 1", "linkLoad 0 = 1");
        b.run(link.replace("#", "0"), "addReceiver 1 0 2 = 0", "level 0 = 0", "linkLoad 0 = 0");
        String cpu = "nodes 2;link 0 1 capacity 99 delay 1;cpu 1 #;native 1 1;format 3 rates 1 1;";
        b.run(cpu.replace("#", "6"), "place 1 1 = true", "addReceiver 1 1 2 = 0", "level 0 = 2", "cpuLoad 1 = 6");
        b.run(cpu.replace("#", "5"), "place 1 1 = true", "addReceiver 1 1 2 = 0", "level 0 = 1", "cpuLoad 1 = 3");
        b.run(cpu.replace("#", "3"), "place 1 1 = true", "addReceiver 1 1 2 = 0", "level 0 = 1", "cpuLoad 1 = 3");
        b.run(cpu.replace("#", "2"), "place 1 1 = true", "addReceiver 1 1 2 = 0", "level 0 = 0", "cpuLoad 1 = 0");
        String source = "nodes 2;link 0 1 capacity 99 delay 1;cpu 0 9;cpu 1 9;native 1;format 1 rates 1;format 1 rates 1;format 1 rates 1;";
        b.run(source, "addReceiver 0 0 1 = 0", "addReceiver 0 1 1 = 1", "addReceiver 1 1 1 = 2", "addReceiver 1 3 1 = 3", "levels = 1000", "place 0 2 = true",
                "improve = NOT_FOUND", "place 0 1 = true", "improve = 2", "levels = 1110", "place 1 3 = true", "improve = 1", "levels = 1111",
                "demand 0 3 = 0");
    }

    private void pruning() {
        b.says("Section 3", "Pruning: as long as there is a node of the tree other than the source without children and without receivers whose level "
                + "is greater than 0, it is removed from the tree.");
        // all nodes go, but for the source; a receiver without a level keeps none
        b.run(Networks.row("native 1;format 1 rates 1;"), "addReceiver 15 0 1 = 0", "addReceiver 7 1 1 = 1", "total 3 = 16", "leave 0 = 1", "total 3 = 1",
                "isInTree 0 = true", "isInTree 1 = false", "isInTree 15 = false");
        // a level of 1 is enough, and so is a child
        b.run(Networks.row("native 1;"), "addReceiver 15 0 1 = 0", "addReceiver 7 0 1 = 1", "leave 0 = 1", "total 3 = 8", "isInTree 7 = true",
                "isInTree 8 = false", "addReceiver 8 0 1 = 2", "leave 1 = 1", "total 3 = 9", "isInTree 7 = true", "leave 2 = 1", "total 3 = 1");
        // two receivers at a node: the last one that has a level keeps it
        b.run(Networks.CHAIN, "addReceiver 2 0 1 = 0", "addReceiver 2 0 4 = 1", "leave 1 = 4", "total 3 = 3", "leave 0 = 1", "total 3 = 1");

        b.says("Section 3", "The tree is pruned after each change described below.");
        b.run(Networks.CHAIN, "place 1 1 = true", "addReceiver 2 1 1 = 0", "total 3 = 3", "remove 1 1 = 1", "total 3 = 1", "undo = 2", "total 3 = 3",
                "setCapacity 1 1 = 1", "total 3 = 1", "undo = 2", "total 3 = 3", "setOpen 1 false = 1", "total 3 = 1", "undo = 2", "total 3 = 3",
                "leave 0 = 1", "total 3 = 1", "addReceiver 2 2 1 = 1", "level 1 = 0", "total 3 = 1", "raise 1 = NOT_FOUND", "total 3 = 1");
    }

    // ---- section 4

    private void trying() {
        b.says("Section 4", "To try a level k (1 or more) for a receiver with the format f at a node u: if u is in the tree, the level of the receiver becomes k.");
        // the shorter way by node 1 is not looked for, as node 2 is in the tree
        b.run(Networks.RING, "setOpen 1 false = 0", "addReceiver 2 0 1 = 0", "parent 2 = 3", "setOpen 1 true = 0", "addReceiver 2 0 3 = 1", "levels = 13",
                "parent 2 = 3", "raise 0 = NOT_FOUND", "setWanted 0 2 = 1", "raise 0 = 2", "parent 2 = 3");
        // no link need have the capacity for the format's rate: here format 1 is made at node 1
        b.run("nodes 2;link 0 1 capacity 2 delay 1;cpu 1 9;native 1 1;format 1 rates 9 9;", "place 1 1 = true", "addReceiver 1 1 2 = 0", "level 0 = 0",
                "addReceiver 1 0 1 = 1", "addReceiver 1 1 2 = 2", "levels = 012", "raise 0 = 1");

        b.says("Section 4", "Otherwise the graft path is searched: it begins at a node of the tree and ends at u, all its nodes but the first one are not "
                + "in the tree, and it uses only open links whose capacity is at least rate(f, k).");
        String ways = "nodes 3;link 0 1 capacity # delay 1;link 0 2 capacity 9 delay 9;link 2 1 capacity 9 delay 9;native 3 2;format 1 rates 4 4;";
        b.run(ways.replace("#", "3"), "graftNode 1 0 1 1 = 1", "graftNode 1 0 2 1 = 2", "graftNode 1 1 1 1 = 2", "setOpen 0 false = 0",
                "graftNode 1 0 1 1 = 2", "graftNode 1 0 1 2 = 1", "setOpen 0 true = 0", "graftNode 1 0 1 1 = 1");
        b.run(ways.replace("#", "2"), "graftNode 1 0 1 1 = 2", "setCapacity 0 3 = 0", "graftNode 1 0 1 1 = 1");
        b.run(ways.replace("#", "4"), "graftNode 1 0 2 1 = 2", "graftNode 1 1 1 1 = 1", "graftNode 1 1 2 1 = 2");
        b.run(ways.replace("#", "5"), "graftNode 1 0 2 1 = 1", "setCapacity 1 4 = 0", "graftNode 2 0 2 1 = 1", "graftNode 2 0 2 2 = 2",
                "setCapacity 2 4 = 0", "graftNode 2 0 2 0 = NOT_FOUND", "graftNode 2 0 1 1 = 2");
        // by nodes 2 and 1 the way to node 3 would be shorter, but node 1 hangs at the source
        b.run("nodes 4;link 0 1 capacity 9 delay 5;link 1 3 capacity 9 delay 1;link 0 2 capacity 1 delay 1;link 2 1 capacity 9 delay 1;native 1 1;",
                "graftNode 3 0 1 1 = 2", "addReceiver 1 0 2 = 0", "parent 1 = 0", "graftNode 3 0 1 0 = 1", "graftNode 3 0 1 1 = 3", "addReceiver 3 0 1 = 1",
                "delay 3 = 6", "graftNode 1 0 1 0 = NOT_FOUND");
    }

    private void graftPaths() {
        b.says("Section 4", "Its delay is the delay of its first node plus the delays of its links.");
        // to node 2: from node 1 with its delay 9 and 1 more, or from the source by node 3
        String ways = "nodes 4;link 0 1 capacity 9 delay 9;link 1 2 capacity 9 delay 1;link 0 3 capacity 9 delay 5;link 3 2 capacity 9 delay #;native 1;";
        b.run(ways.replace("#", "4"), "addReceiver 1 0 1 = 0", "graftNode 2 0 1 0 = 0", "graftNode 2 0 1 1 = 3");
        b.run(ways.replace("#", "5"), "addReceiver 1 0 1 = 0", "graftNode 2 0 1 0 = 1", "graftNode 2 0 1 1 = 2");
        b.run(ways.replace("#", "6"), "addReceiver 1 0 1 = 0", "graftNode 2 0 1 0 = 1", "graftNode 2 0 1 1 = 2");

        b.says("Section 4", "The graft path is the one with the least delay, among several the one with the fewest links, and among several of these the "
                + "one with the lexicographically least sequence of nodes from its first node to u.");
        String direct = "nodes 3;link 0 2 capacity 9 delay 2;link 2 1 capacity 9 delay 2;link 0 1 capacity 9 delay #;native 1;";
        b.run(direct.replace("#", "3"), "graftNode 1 0 1 1 = 1");
        b.run(direct.replace("#", "4"), "graftNode 1 0 1 1 = 1", "graftNode 1 0 1 2 = NOT_FOUND");
        b.run(direct.replace("#", "5"), "graftNode 1 0 1 1 = 2", "graftNode 1 0 1 2 = 1");
        // only the links of the graft path count, not those of the tree above it
        b.run("nodes 5;link 0 1 capacity 9 delay 1;link 1 2 capacity 9 delay 1;link 2 4 capacity 9 delay 2;link 0 3 capacity 9 delay 2;"
                        + "link 3 4 capacity 9 delay 2;native 1;",
                "graftNode 4 0 1 1 = 3", "addReceiver 2 0 1 = 0", "graftNode 4 0 1 0 = 2", "graftNode 4 0 1 1 = 4");
        // the first node that differs decides, not the last one
        b.run("nodes 6;link 0 2 capacity 9 delay 1;link 2 3 capacity 9 delay 1;link 3 5 capacity 9 delay 1;link 0 1 capacity 9 delay 1;"
                        + "link 1 4 capacity 9 delay 1;link 4 5 capacity 9 delay 1;native 1;",
                "graftNode 5 0 1 0 = 0", "graftNode 5 0 1 1 = 1", "graftNode 5 0 1 2 = 4", "graftNode 5 0 1 3 = 5", "graftNode 5 0 1 4 = NOT_FOUND");
        // and the first one of all is a node of the tree
        String firsts = "nodes 4;link 2 3 capacity 9 delay 1;link 1 3 capacity 9 delay 1;link 0 2 capacity 9 delay 1;link 0 1 capacity 9 delay 1;"
                + "link 0 3 capacity 9 delay #;native 1;";
        b.run(firsts.replace("#", "3"), "addReceiver 2 0 1 = 0", "graftNode 3 0 1 0 = 2", "addReceiver 1 0 1 = 1", "graftNode 3 0 1 0 = 1");
        b.run(firsts.replace("#", "2"), "addReceiver 2 0 1 = 0", "graftNode 3 0 1 0 = 0", "addReceiver 1 0 1 = 1", "graftNode 3 0 1 0 = 0",
                "graftNode 3 0 1 1 = 3");
        // the longest path there can be, and the greatest delay
        b.run(Networks.row("native 1;"), "graftNode 15 0 1 0 = 0", "graftNode 15 0 1 14 = 14", "graftNode 15 0 1 15 = 15", "graftNode 15 0 1 16 = NOT_FOUND",
                "addReceiver 15 0 1 = 0", "delay 15 = 1485");

        b.says("Section 4", "Otherwise its nodes are added to the tree, each with the one before it as its parent, and the level of the receiver becomes k.");
        b.run(Networks.RING, "addReceiver 5 0 2 = 0", "report = 3 0 200|5 3 200|", "addReceiver 4 0 3 = 1", "parent 4 = 2", "parent 2 = 1", "parent 1 = 0",
                "levels = 23");
    }

    private void failing() {
        b.says("Section 4", "If there is none, the try fails.");
        b.run(Networks.TIES, "addReceiver 5 0 2 = 0", "level 0 = 0", "raise 0 = NOT_FOUND", "graftNode 5 0 1 0 = NOT_FOUND", "offer 5 0 = 0");
        b.run("nodes 2;link 0 1 capacity 1 delay 1;native 2;", "addReceiver 1 0 1 = 0", "level 0 = 0", "raise 0 = NOT_FOUND", "setCapacity 0 2 = 0",
                "setOpen 0 false = 0", "raise 0 = NOT_FOUND", "setOpen 0 true = 0", "raise 0 = 1");

        b.says("Section 4", "If the tree is not valid then, the try fails, and everything becomes as it was before.");
        String[] outside = {"addReceiver 5 0 1 = 0", "addReceiver 4 1 3 = 1", "level 1 = 0"};
        b.kept(Networks.RING, outside, "raise 1 = NOT_FOUND", "improve = NOT_FOUND", "offer 4 1 = 0");
        String[] inside = {"addReceiver 4 0 3 = 0", "addReceiver 4 1 3 = 1", "place 2 1 = true", "raise 1 = 1"};
        b.kept(Networks.RING, inside, "raise 1 = NOT_FOUND", "improve = NOT_FOUND", "offer 4 1 = 1", "offer 4 2 = 0");
        String[] processor = {"place 1 1 = true", "addReceiver 2 1 4 = 0", "level 0 = 3", "cpuLoad 1 = 6"};
        b.kept(Networks.CHAIN, processor, "raise 0 = NOT_FOUND", "improve = NOT_FOUND", "offer 2 1 = 3");
    }

    private void joining() {
        b.says("Section 4", "A receiver joins: the levels from its wanted level down to 1 are tried, until one does not fail.", "If all fail, its level is 0.");
        // the levels need 1, 3, 6, 10 and 15
        int[] capacities = {0, 1, 2, 3, 5, 6, 9, 10, 14, 15, 9999};
        int[] levels = {0, 1, 1, 2, 2, 3, 3, 4, 4, 5, 5};
        for (int i = 0; i < capacities.length; i++) {
            b.run("nodes 2;link 0 1 capacity " + capacities[i] + " delay 1;native 1 2 3 4 5;", "addReceiver 1 0 5 = 0", "level 0 = " + levels[i],
                    "addReceiver 1 0 4 = 1", "level 1 = " + Math.min(4, levels[i]), "addReceiver 1 0 1 = 2", "level 2 = " + Math.min(1, levels[i]),
                    "offer 1 0 = " + levels[i]);
        }
        // the greatest level counts, even by a longer way
        b.run("nodes 3;link 0 1 capacity 2 delay 1;link 0 2 capacity 9 delay 9;link 2 1 capacity 5 delay 9;native 2 3 4;", "addReceiver 1 0 3 = 0",
                "level 0 = 2", "parent 1 = 2", "leave 0 = 2", "addReceiver 1 0 1 = 1", "level 1 = 1", "parent 1 = 0");
    }

    // ---- section 5

    private void paths() {
        b.says("Section 5", "The path of a receiver with a level greater than 0 consists of its node, the parent of this node, and so on to the source.");
        b.run(Networks.RING, "addReceiver 4 0 1 = 0", "pathNode 0 0 = 4", "pathNode 0 1 = 2", "pathNode 0 2 = 1", "pathNode 0 3 = 0",
                "pathNode 0 4 = NOT_FOUND", "addReceiver 0 0 1 = 1", "pathNode 1 0 = 0", "pathNode 1 1 = NOT_FOUND", "addReceiver 4 1 1 = 2",
                "pathNode 2 0 = NOT_FOUND");

        b.says("Section 5", "It is served at the first node of its path, beginning with its own node, at which a converter for its format is placed "
                + "(it is not served at any node if there is none, and always if its format is 0).");
        b.run(Networks.CHAIN, "place 0 1 = true", "addReceiver 2 1 1 = 0", "servedAt 0 = 0", "place 1 2 = true", "servedAt 0 = 0", "place 1 1 = true",
                "servedAt 0 = 1", "place 2 1 = true", "servedAt 0 = 2", "remove 1 1 = 0", "servedAt 0 = 2", "remove 2 1 = 0", "servedAt 0 = 0",
                "addReceiver 2 0 1 = 1", "servedAt 1 = NOT_FOUND", "addReceiver 0 1 1 = 2", "servedAt 2 = 0", "addReceiver 0 2 1 = 3",
                "servedAt 3 = NOT_FOUND", "remove 0 1 = 2", "servedAt 0 = NOT_FOUND");
    }

    private void lowering() {
        b.says("Section 5", "Repairing the tree: as long as it is not valid, the first violation in the following order is found, and one receiver is "
                + "lowered: its level decreases by 1.");
        String line = "nodes 2;link 0 1 capacity 15 delay 1;native 1 2 3 4 5;";
        b.run(line, "addReceiver 1 0 5 = 0", "addReceiver 1 0 3 = 1", "setCapacity 0 10 = 1", "levels = 43", "setCapacity 0 9 = 1", "levels = 33",
                "setCapacity 0 6 = 0", "levels = 33", "setCapacity 0 5 = 2", "levels = 22", "setCapacity 0 0 = 4", "levels = 00");
        b.run(line, "addReceiver 1 0 5 = 0", "addReceiver 1 0 5 = 1", "setCapacity 0 0 = 10", "levels = 00", "undo = 2", "levels = 55",
                "setCapacity 0 14 = 2", "levels = 44");

        b.says("Section 5", "In each case it is the one with the greatest level, among several the one with the greatest number.");
        String two = "nodes 2;link 0 1 capacity 8 delay 1;cpu 0 99;native 2 2;format 1 rates 2 2;";
        for (String formats : new String[] {"01", "10"}) {
            b.run(two, "place 0 1 = true", "addReceiver 1 " + formats.charAt(0) + " 2 = 0", "addReceiver 1 " + formats.charAt(1) + " 2 = 1", "levels = 22",
                    "setCapacity 0 7 = 1", "levels = 21", "setCapacity 0 6 = 0", "setCapacity 0 5 = 1", "levels = 11", "setCapacity 0 4 = 0",
                    "setCapacity 0 3 = 1", "levels = 10", "setCapacity 0 2 = 0", "setCapacity 0 1 = 1", "levels = 00");
        }
        b.run(two, "place 0 1 = true", "addReceiver 1 0 2 = 0", "addReceiver 1 1 1 = 1", "setCapacity 0 5 = 1", "levels = 11");
        b.run(two, "place 0 1 = true", "addReceiver 1 0 1 = 0", "addReceiver 1 1 2 = 1", "setCapacity 0 5 = 1", "levels = 11");

        b.says("Section 5", "The tree is pruned each time.");
        b.run(Networks.RING, "addReceiver 4 0 3 = 0", "addReceiver 1 0 1 = 1", "setCapacity 4 1 = 3", "levels = 01", "report = 1 0 100|",
                "setCapacity 0 1 = 1", "levels = 00", "report = ", "isInTree 0 = true");
    }

    private void orderOfViolations() {
        b.says("Section 5", "- First the links in ascending order: if the load of a link is greater than its capacity, one of the receivers whose path "
                + "contains the link is lowered.");
        b.run(Networks.RING, "addReceiver 4 0 2 = 0", "addReceiver 1 0 3 = 1", "addReceiver 5 0 2 = 2", "setCapacity 4 4 = 0", "levels = 232",
                "setCapacity 4 3 = 1", "levels = 132", "setCapacity 1 1 = 1", "levels = 032", "setCapacity 2 4 = 0", "setCapacity 2 3 = 1", "levels = 031");
        // the lower link is link 0: were the upper one first, receiver 1 would be lowered
        b.run("nodes 3;link 1 2 capacity 5 delay 1;link 0 1 capacity 8 delay 1;cpu 0 99;cpu 2 99;native 1 1 1;format 1 rates 5 5 5;",
                "place 0 1 = true", "place 2 1 = true", "addReceiver 2 1 1 = 0", "setWanted 0 2 = 1", "raise 0 = 2", "addReceiver 1 0 3 = 1", "levels = 23",
                "remove 2 1 = 1", "levels = 13", "linkLoad 0 = 5", "linkLoad 1 = 8");
        // here the upper link is link 0: receiver 1 is lowered twice before receiver 0
        b.run("nodes 3;link 0 1 capacity 8 delay 1;link 1 2 capacity 5 delay 1;cpu 0 99;cpu 2 99;native 1 1 1;format 1 rates 5 5 5;",
                "place 0 1 = true", "place 2 1 = true", "addReceiver 2 1 1 = 0", "setWanted 0 2 = 1", "raise 0 = 2", "addReceiver 1 0 3 = 1", "levels = 23",
                "remove 2 1 = 3", "levels = 11", "linkLoad 1 = 5", "linkLoad 0 = 6");

        b.says("Section 5", "- Then the nodes in ascending order: if the processor load is greater than the processor capacity, one of the receivers that "
                + "are served at the node is lowered.");
        String cpu = "nodes 3;link 0 1 capacity 99 delay 1;link 1 2 capacity 99 delay 1;cpu 0 #;cpu 1 20;native 1 1 1 1;format 2 rates 1 1 1 1;";
        String[] before = {"place 0 1 = true", "place 1 1 = true", "addReceiver 2 1 3 = 0", "addReceiver 2 1 4 = 1", "addReceiver 0 1 1 = 2",
            "addReceiver 2 0 4 = 3", "levels = 3414"};
        b.runAfter(cpu.replace("#", "8"), before, "remove 1 1 = 0", "levels = 3414", "cpuLoad 0 = 8");
        b.runAfter(cpu.replace("#", "7"), before, "remove 1 1 = 1", "levels = 3314", "cpuLoad 0 = 6");
        b.runAfter(cpu.replace("#", "5"), before, "remove 1 1 = 3", "levels = 2214", "cpuLoad 0 = 4");
        b.runAfter(cpu.replace("#", "2"), before, "remove 1 1 = 5", "levels = 1114", "cpuLoad 0 = 2");
        // receiver 0 has the greatest level, but nobody serves it
        b.run(cpu.replace("#", "4"), "place 0 1 = true", "place 1 1 = true", "addReceiver 2 0 4 = 0", "addReceiver 2 1 3 = 1", "levels = 43", "remove 1 1 = 1",
                "levels = 42");
        // links come first: otherwise receiver 2 would keep its level
        b.run("nodes 3;link 0 2 capacity 9 delay 1;link 0 1 capacity 6 delay 1;cpu 0 9;cpu 1 12;native 1 1 1;format 4 rates 2 1 1;",
                "place 0 1 = true", "place 1 1 = true", "addReceiver 2 1 2 = 0", "addReceiver 1 1 3 = 1", "addReceiver 1 0 3 = 2", "levels = 233",
                "remove 1 1 = 2", "levels = 222");

        b.says("Section 5", "- Then the formats in ascending order, beginning with 1: if the demand of the source for the format must be 0 but is not, "
                + "one of the receivers of this format that are not served at any node is lowered.");
        b.run(Networks.CHAIN, "place 0 1 = true", "place 0 2 = true", "place 2 1 = true", "addReceiver 2 1 1 = 0", "addReceiver 1 1 2 = 1",
                "addReceiver 1 2 4 = 2", "addReceiver 1 0 4 = 3", "addReceiver 0 1 1 = 4", "levels = 12441", "remove 0 1 = 3", "levels = 10440",
                "servedAt 0 = 2", "remove 0 2 = 4", "levels = 10040", "remove 2 1 = 1", "levels = 00040");
    }
}
