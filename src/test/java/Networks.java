/** The setups that several tests use. */
final class Networks {
    private Networks() {
    }

    /** Two ways to node 2 (by 1 with delay 4, by 3 with delay 5), node 4 behind it, node 5 behind 3. */
    static final String RING = "nodes 6;"
            + "link 0 1 capacity 10 delay 2;"
            + "link 1 2 capacity 6 delay 2;"
            + "link 0 3 capacity 8 delay 4;"
            + "link 3 2 capacity 9 delay 1;"
            + "link 2 4 capacity 6 delay 3;"
            + "link 3 5 capacity 4 delay 5;"
            + "cpu 1 12;cpu 2 6;"
            + "native 2 2 1;"
            + "format 3 rates 1 1 1;"
            + "format 2 rates 3 3 3;";

    /** A chain 0 - 1 - 2 with room for everything, and processors for six and three levels. */
    static final String CHAIN = "nodes 3;"
            + "link 0 1 capacity 100 delay 1;"
            + "link 1 2 capacity 100 delay 1;"
            + "cpu 0 12;cpu 1 6;cpu 2 3;"
            + "native 1 1 1 1;"
            + "format 2 rates 2 2 2 2;"
            + "format 1 rates 3 3 3 3;";

    /** Node 3 by 1, by 2, by 4 or directly, all with delay 4; node 5 has no link. */
    static final String TIES = "nodes 6;"
            + "link 0 4 capacity 9 delay 2;"
            + "link 4 3 capacity 9 delay 2;"
            + "link 0 2 capacity 9 delay 2;"
            + "link 2 3 capacity 9 delay 2;"
            + "link 0 1 capacity 9 delay 2;"
            + "link 1 3 capacity 9 delay 2;"
            + "link 0 3 capacity 1 delay 4;"
            + "native 1 1;";

    /** Sixteen nodes in a row, which all links of the greatest capacity and delay connect. */
    static String row(String behind) {
        StringBuilder text = new StringBuilder("nodes 16;");
        for (int node = 1; node < 16; node++) {
            text.append("link ").append(node - 1).append(' ').append(node).append(" capacity 9999 delay 99;");
        }
        return text + behind;
    }

    /** Sixteen nodes and so many links: 0 - 1, 0 - 2 and so on to 2 - 5, the 32nd; each has its number as its capacity. */
    static String links(int count) {
        StringBuilder text = new StringBuilder("nodes 16;");
        int links = 0;
        for (int a = 0; a < 16; a++) {
            for (int b = a + 1; b < 16 && links < count; b++) {
                text.append("link ").append(a).append(' ').append(b).append(" capacity ").append(links).append(" delay 1;");
                links++;
            }
        }
        return text.toString();
    }
}
