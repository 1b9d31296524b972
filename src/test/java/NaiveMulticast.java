import java.util.ArrayDeque;
import java.util.ArrayList;
import java.util.Deque;
import java.util.List;
import java.util.TreeMap;
import java.util.TreeSet;

/**
 * The document once more, word by word and without regard to speed, so that random runs can be
 * compared with it: demands by their recursive definition, pruning leaf by leaf, graft paths by
 * looking at every path.
 */
public final class NaiveMulticast {

    private static final int INVALID = -1;
    private static final int NOT_FOUND = -2;

    private static final class Link {
        int a;
        int b;
        int capacity;
        int delay;
        boolean open = true;

        Link copy() {
            Link c = new Link();
            c.a = a;
            c.b = b;
            c.capacity = capacity;
            c.delay = delay;
            c.open = open;
            return c;
        }

        boolean joins(int x, int y) {
            return (a == x && b == y) || (a == y && b == x);
        }
    }

    private static final class Receiver {
        int node;
        int format;
        int wanted;
        int level;
        boolean left;

        Receiver copy() {
            Receiver c = new Receiver();
            c.node = node;
            c.format = format;
            c.wanted = wanted;
            c.level = level;
            c.left = left;
            return c;
        }
    }

    private static final class Refused extends RuntimeException {
        private static final long serialVersionUID = 1L;
        final int position;

        Refused(int position) {
            this.position = position;
        }
    }

    /** Everything but the tape, the error position and what can be undone. */
    private static final class World {
        int nodes = 2;
        List<Link> links = new ArrayList<>();
        TreeMap<Integer, Integer> cpu = new TreeMap<>();
        List<List<Integer>> layerRates = new ArrayList<>();
        List<Integer> costs = new ArrayList<>();
        List<Receiver> receivers = new ArrayList<>();
        TreeSet<String> converters = new TreeSet<>();
        TreeMap<Integer, Integer> parents = new TreeMap<>();

        World copy() {
            World c = new World();
            c.nodes = nodes;
            for (Link l : links) {
                c.links.add(l.copy());
            }
            c.cpu = new TreeMap<>(cpu);
            c.layerRates = layerRates;
            c.costs = costs;
            for (Receiver r : receivers) {
                c.receivers.add(r.copy());
            }
            c.converters = new TreeSet<>(converters);
            c.parents = new TreeMap<>(parents);
            return c;
        }

        int layers() {
            return layerRates.get(0).size();
        }

        int rate(int format, int level) {
            int sum = 0;
            for (int i = 0; i < level; i++) {
                sum += layerRates.get(format).get(i);
            }
            return sum;
        }

        boolean inTree(int node) {
            return node == 0 || parents.containsKey(node);
        }

        boolean converts(int node, int format) {
            return converters.contains(node + ":" + format);
        }

        int linkIndex(int x, int y) {
            for (int i = 0; i < links.size(); i++) {
                if (links.get(i).joins(x, y)) {
                    return i;
                }
            }
            return -1;
        }

        int uplink(int node) {
            return linkIndex(node, parents.get(node));
        }

        int demand(int node, int format) {
            if (!inTree(node)) {
                return 0;
            }
            int greatest = 0;
            for (Receiver r : receivers) {
                if (r.node == node && r.format == format) {
                    greatest = Math.max(greatest, r.level);
                }
            }
            for (int child : parents.keySet()) {
                if (parents.get(child) == node) {
                    greatest = Math.max(greatest, asks(child, format));
                }
            }
            if (format == 0) {
                for (int f = 1; f < layerRates.size(); f++) {
                    if (converts(node, f)) {
                        greatest = Math.max(greatest, demand(node, f));
                    }
                }
            }
            return greatest;
        }

        int asks(int node, int format) {
            return converts(node, format) ? 0 : demand(node, format);
        }

        int linkLoad(int link) {
            int sum = 0;
            for (int node : parents.keySet()) {
                if (uplink(node) == link) {
                    for (int f = 0; f < layerRates.size(); f++) {
                        sum += rate(f, asks(node, f));
                    }
                }
            }
            return sum;
        }

        int cpuLoad(int node) {
            int sum = 0;
            for (int f = 1; f < layerRates.size(); f++) {
                if (inTree(node) && converts(node, f)) {
                    sum += costs.get(f) * demand(node, f);
                }
            }
            return sum;
        }

        int delay(int node) {
            return node == 0 ? 0 : links.get(uplink(node)).delay + delay(parents.get(node));
        }

        boolean sourceLacks(int format) {
            return demand(0, format) > 0 && !converts(0, format);
        }

        boolean valid() {
            for (int i = 0; i < links.size(); i++) {
                if (linkLoad(i) > links.get(i).capacity) {
                    return false;
                }
            }
            for (int v = 0; v < nodes; v++) {
                if (cpuLoad(v) > cpu.getOrDefault(v, 0)) {
                    return false;
                }
            }
            for (int f = 1; f < layerRates.size(); f++) {
                if (sourceLacks(f)) {
                    return false;
                }
            }
            return true;
        }

        boolean prunable(int node) {
            for (Receiver r : receivers) {
                if (r.node == node && r.level > 0) {
                    return false;
                }
            }
            return !parents.containsValue(node);
        }

        void prune() {
            boolean again = true;
            while (again) {
                again = false;
                for (int node : new ArrayList<>(parents.keySet())) {
                    if (prunable(node)) {
                        parents.remove(node);
                        again = true;
                    }
                }
            }
        }

        List<Integer> path(Receiver r) {
            List<Integer> found = new ArrayList<>();
            if (r.level == 0) {
                return found;
            }
            int v = r.node;
            while (v != 0) {
                found.add(v);
                v = parents.get(v);
            }
            found.add(0);
            return found;
        }

        List<Integer> pathLinks(Receiver r) {
            List<Integer> found = new ArrayList<>();
            for (int v : path(r)) {
                if (v != 0) {
                    found.add(uplink(v));
                }
            }
            return found;
        }

        int servedAt(Receiver r) {
            for (int v : path(r)) {
                if (r.format != 0 && converts(v, r.format)) {
                    return v;
                }
            }
            return NOT_FOUND;
        }

        int levelSum() {
            int sum = 0;
            for (Receiver r : receivers) {
                sum += r.level;
            }
            return sum;
        }

        // the best path so far, while all are looked at
        private List<Integer> best;
        private int bestDelay;

        List<Integer> graftPath(int goal, int needed) {
            best = null;
            bestDelay = Integer.MAX_VALUE;
            for (int v = 0; v < nodes; v++) {
                if (inTree(v)) {
                    List<Integer> begun = new ArrayList<>();
                    begun.add(v);
                    extend(begun, delay(v), goal, needed);
                }
            }
            return best;
        }

        private void extend(List<Integer> begun, int delay, int goal, int needed) {
            int last = begun.get(begun.size() - 1);
            if (delay > bestDelay) {
                return;
            }
            if (last == goal) {
                if (best == null || better(begun, delay)) {
                    best = new ArrayList<>(begun);
                    bestDelay = delay;
                }
                return;
            }
            for (Link l : links) {
                int next = l.a == last ? l.b : l.b == last ? l.a : -1;
                if (next >= 0 && l.open && l.capacity >= needed && !inTree(next) && !begun.contains(next)) {
                    begun.add(next);
                    extend(begun, delay + l.delay, goal, needed);
                    begun.remove(begun.size() - 1);
                }
            }
        }

        private boolean better(List<Integer> p, int delay) {
            if (delay != bestDelay) {
                return delay < bestDelay;
            }
            if (p.size() != best.size()) {
                return p.size() < best.size();
            }
            for (int i = 0; i < p.size(); i++) {
                if (!p.get(i).equals(best.get(i))) {
                    return p.get(i) < best.get(i);
                }
            }
            return false;
        }

        boolean tryLevel(Receiver r, int level) {
            TreeMap<Integer, Integer> parentsBefore = new TreeMap<>(parents);
            int levelBefore = r.level;
            if (!inTree(r.node)) {
                List<Integer> p = graftPath(r.node, rate(r.format, level));
                if (p == null) {
                    return false;
                }
                for (int i = 1; i < p.size(); i++) {
                    parents.put(p.get(i), p.get(i - 1));
                }
            }
            r.level = level;
            if (valid()) {
                return true;
            }
            r.level = levelBefore;
            parents = parentsBefore;
            return false;
        }

        void join(Receiver r) {
            for (int k = r.wanted; k >= 1; k--) {
                if (tryLevel(r, k)) {
                    return;
                }
            }
            r.level = 0;
        }

        int repair() {
            int times = 0;
            while (!valid()) {
                Receiver chosen = null;
                for (Receiver r : candidates()) {
                    if (chosen == null || r.level >= chosen.level) {
                        chosen = r;
                    }
                }
                chosen.level--;
                prune();
                times++;
            }
            return times;
        }

        private List<Receiver> candidates() {
            List<Receiver> found = new ArrayList<>();
            for (int i = 0; i < links.size(); i++) {
                if (linkLoad(i) > links.get(i).capacity) {
                    for (Receiver r : receivers) {
                        if (pathLinks(r).contains(i)) {
                            found.add(r);
                        }
                    }
                    return found;
                }
            }
            for (int v = 0; v < nodes; v++) {
                if (cpuLoad(v) > cpu.getOrDefault(v, 0)) {
                    for (Receiver r : receivers) {
                        if (servedAt(r) == v) {
                            found.add(r);
                        }
                    }
                    return found;
                }
            }
            for (int f = 1; f < layerRates.size(); f++) {
                if (sourceLacks(f)) {
                    for (Receiver r : receivers) {
                        if (r.level > 0 && r.format == f && servedAt(r) == NOT_FOUND) {
                            found.add(r);
                        }
                    }
                    return found;
                }
            }
            return found;
        }

        boolean isAtOrBelow(int node, int top) {
            int v = node;
            while (v != top && v != 0) {
                v = parents.get(v);
            }
            return v == top;
        }

        int close(int link) {
            int before = levelSum();
            links.get(link).open = false;
            for (int top : new ArrayList<>(parents.keySet())) {
                if (parents.containsKey(top) && uplink(top) == link) {
                    List<Integer> gone = new ArrayList<>();
                    for (int v : parents.keySet()) {
                        if (isAtOrBelow(v, top)) {
                            gone.add(v);
                        }
                    }
                    List<Receiver> again = new ArrayList<>();
                    for (Receiver r : receivers) {
                        if (gone.contains(r.node)) {
                            if (r.level > 0) {
                                again.add(r);
                            }
                            r.level = 0;
                        }
                    }
                    parents.keySet().removeAll(gone);
                    prune();
                    for (Receiver r : again) {
                        join(r);
                    }
                    break;
                }
            }
            return before - levelSum();
        }

        int improve() {
            int all = 0;
            int inPass;
            do {
                inPass = 0;
                for (Receiver r : receivers) {
                    if (!r.left && r.level < r.wanted && tryLevel(r, r.level + 1)) {
                        inPass++;
                    }
                }
                all += inPass;
            } while (inPass > 0);
            return all;
        }

        int gain(int node, int format) {
            if (converts(node, format)) {
                return NOT_FOUND;
            }
            converters.add(node + ":" + format);
            if (!valid()) {
                return NOT_FOUND;
            }
            int before = levelSum();
            improve();
            return levelSum() - before;
        }
    }

    /** Reads a setup text token by token. */
    private static final class Text {
        private final String text;
        private int start;
        private String token;
        private int end;

        Text(String text) {
            this.text = text;
            advance();
        }

        private static String kindOf(char c) {
            return c >= 'a' && c <= 'z' ? "word" : c >= '0' && c <= '9' ? "int" : "other";
        }

        private void advance() {
            start = end;
            while (start < text.length() && (text.charAt(start) == ' ' || text.charAt(start) == '\n')) {
                start++;
            }
            end = start;
            if (start == text.length()) {
                token = null;
                return;
            }
            String kind = kindOf(text.charAt(start));
            end++;
            while (!kind.equals("other") && end < text.length() && kindOf(text.charAt(end)).equals(kind)) {
                end++;
            }
            token = text.substring(start, end);
        }

        private boolean at(String wanted) {
            return wanted.equals(token);
        }

        private void refuse() {
            throw new Refused(start);
        }

        private void take(String wanted) {
            if (!at(wanted)) {
                refuse();
            }
            advance();
        }

        private boolean atInt() {
            return token != null && kindOf(token.charAt(0)).equals("int");
        }

        private int peekInt(int least, int greatest) {
            if (!atInt() || token.length() > 4) {
                refuse();
            }
            int value = Integer.parseInt(token);
            if (value < least || value > greatest) {
                refuse();
            }
            return value;
        }

        private int takeInt(int least, int greatest) {
            int value = peekInt(least, greatest);
            advance();
            return value;
        }

        World read() {
            World w = new World();
            take("nodes");
            w.nodes = takeInt(2, 16);
            take(";");
            while (at("link")) {
                if (w.links.size() == 32) {
                    refuse();
                }
                advance();
                Link l = new Link();
                l.a = takeInt(0, w.nodes - 1);
                l.b = peekInt(0, w.nodes - 1);
                if (l.a == l.b || w.linkIndex(l.a, l.b) >= 0) {
                    refuse();
                }
                advance();
                take("capacity");
                l.capacity = takeInt(0, 9999);
                take("delay");
                l.delay = takeInt(1, 99);
                take(";");
                w.links.add(l);
            }
            while (at("cpu")) {
                advance();
                int node = peekInt(0, w.nodes - 1);
                if (w.cpu.containsKey(node)) {
                    refuse();
                }
                advance();
                w.cpu.put(node, takeInt(0, 999));
                take(";");
            }
            take("native");
            List<Integer> rates = new ArrayList<>();
            rates.add(takeInt(1, 999));
            while (atInt()) {
                if (rates.size() == 5) {
                    refuse();
                }
                rates.add(takeInt(1, 999));
            }
            take(";");
            w.layerRates.add(rates);
            w.costs.add(0);
            while (at("format")) {
                if (w.layerRates.size() == 4) {
                    refuse();
                }
                advance();
                w.costs.add(takeInt(1, 99));
                take("rates");
                List<Integer> more = new ArrayList<>();
                while (more.size() < rates.size()) {
                    more.add(takeInt(1, 999));
                }
                take(";");
                w.layerRates.add(more);
            }
            if (token != null) {
                refuse();
            }
            return w;
        }
    }

    private World world = new World();
    private final Deque<World> past = new ArrayDeque<>();
    private String tape = "";
    private int error = NOT_FOUND;

    public NaiveMulticast() {
        world.layerRates.add(List.of(1));
        world.costs.add(0);
    }

    private void remember(World before) {
        past.addLast(before);
        if (past.size() > 10) {
            past.removeFirst();
        }
    }

    private boolean node(int v) {
        return v >= 0 && v < world.nodes;
    }

    private boolean link(int l) {
        return l >= 0 && l < world.links.size();
    }

    private boolean format(int f) {
        return f >= 0 && f < world.layerRates.size();
    }

    private boolean lev(int k) {
        return k >= 1 && k <= world.layers();
    }

    private boolean added(int r) {
        return r >= 0 && r < world.receivers.size();
    }

    private boolean here(int r) {
        return added(r) && !world.receivers.get(r).left;
    }

    private Receiver rec(int r) {
        return world.receivers.get(r);
    }

    public int append(int a, int b, int c, int d, int e) {
        if (tape.length() + 20 > 1400) {
            return INVALID;
        }
        for (int x : new int[] {a, b, c, d, e}) {
            tape += "" + (char) (x >>> 24) + (char) (x >> 16 & 255) + (char) (x >> 8 & 255) + (char) (x & 255);
        }
        return tape.length();
    }

    public int truncate(int n) {
        if (n < 0 || n > tape.length()) {
            return INVALID;
        }
        tape = tape.substring(0, tape.length() - n);
        return tape.length();
    }

    public int load() {
        String text = tape;
        tape = "";
        try {
            world = new Text(text).read();
            past.clear();
            error = NOT_FOUND;
            return world.nodes;
        } catch (Refused refused) {
            error = refused.position;
            return INVALID;
        }
    }

    public int errorPosition() {
        return error;
    }

    public int nodes() {
        return world.nodes;
    }

    public int links() {
        return world.links.size();
    }

    public int formats() {
        return world.layerRates.size();
    }

    public int layers() {
        return world.layers();
    }

    public int rate(int format, int level) {
        return format(format) && lev(level) ? world.rate(format, level) : INVALID;
    }

    public int linkBetween(int a, int b) {
        if (!node(a) || !node(b)) {
            return INVALID;
        }
        int found = world.linkIndex(a, b);
        return found < 0 ? NOT_FOUND : found;
    }

    public int capacity(int link) {
        return link(link) ? world.links.get(link).capacity : INVALID;
    }

    public boolean isOpen(int link) {
        return link(link) && world.links.get(link).open;
    }

    public int addReceiver(int node, int format, int wanted) {
        if (!node(node) || !format(format) || !lev(wanted)) {
            return INVALID;
        }
        if (world.receivers.size() == 20) {
            return NOT_FOUND;
        }
        remember(world.copy());
        Receiver r = new Receiver();
        r.node = node;
        r.format = format;
        r.wanted = wanted;
        world.receivers.add(r);
        world.join(r);
        return world.receivers.size() - 1;
    }

    public int leave(int receiver) {
        if (!here(receiver)) {
            return INVALID;
        }
        remember(world.copy());
        int had = rec(receiver).level;
        rec(receiver).level = 0;
        rec(receiver).left = true;
        world.prune();
        return had;
    }

    public int setWanted(int receiver, int wanted) {
        if (!here(receiver) || !lev(wanted)) {
            return INVALID;
        }
        if (rec(receiver).wanted == wanted) {
            return NOT_FOUND;
        }
        remember(world.copy());
        rec(receiver).wanted = wanted;
        if (rec(receiver).level > wanted) {
            rec(receiver).level = wanted;
        }
        world.prune();
        return rec(receiver).level;
    }

    public int raise(int receiver) {
        if (!here(receiver)) {
            return INVALID;
        }
        World before = world.copy();
        if (rec(receiver).level == rec(receiver).wanted
                || !world.tryLevel(rec(receiver), rec(receiver).level + 1)) {
            return NOT_FOUND;
        }
        remember(before);
        return rec(receiver).level;
    }

    public boolean place(int node, int format) {
        if (!node(node) || !format(format) || format == 0 || world.converts(node, format)) {
            return false;
        }
        World before = world.copy();
        world.converters.add(node + ":" + format);
        if (!world.valid()) {
            world = before;
            return false;
        }
        remember(before);
        return true;
    }

    public int remove(int node, int format) {
        if (!node(node) || !format(format) || format == 0) {
            return INVALID;
        }
        if (!world.converts(node, format)) {
            return NOT_FOUND;
        }
        remember(world.copy());
        world.converters.remove(node + ":" + format);
        return world.repair();
    }

    public int setCapacity(int link, int capacity) {
        if (!link(link) || capacity < 0 || capacity > 9999) {
            return INVALID;
        }
        if (world.links.get(link).capacity == capacity) {
            return NOT_FOUND;
        }
        remember(world.copy());
        world.links.get(link).capacity = capacity;
        return world.repair();
    }

    public int setOpen(int link, boolean open) {
        if (!link(link)) {
            return INVALID;
        }
        if (world.links.get(link).open == open) {
            return NOT_FOUND;
        }
        remember(world.copy());
        if (!open) {
            return world.close(link);
        }
        world.links.get(link).open = true;
        return 0;
    }

    public int improve() {
        World before = world.copy();
        int raised = world.improve();
        if (raised == 0) {
            return NOT_FOUND;
        }
        remember(before);
        return raised;
    }

    public int rebuild() {
        World before = world.copy();
        world.parents.clear();
        for (Receiver r : world.receivers) {
            r.level = 0;
        }
        for (Receiver r : world.receivers) {
            if (!r.left) {
                world.join(r);
            }
        }
        int growth = world.levelSum() - before.levelSum();
        if (growth <= 0) {
            world = before;
            return NOT_FOUND;
        }
        remember(before);
        return growth;
    }

    public int undo() {
        if (past.isEmpty()) {
            return INVALID;
        }
        world = past.removeLast();
        return past.size();
    }

    public int receivers() {
        return world.receivers.size();
    }

    public boolean hasLeft(int receiver) {
        return added(receiver) && rec(receiver).left;
    }

    public int level(int receiver) {
        return added(receiver) ? rec(receiver).level : INVALID;
    }

    public int wanted(int receiver) {
        return here(receiver) ? rec(receiver).wanted : INVALID;
    }

    public int servedAt(int receiver) {
        return here(receiver) ? world.servedAt(rec(receiver)) : INVALID;
    }

    public int pathNode(int receiver, int k) {
        if (!here(receiver) || k < 0) {
            return INVALID;
        }
        List<Integer> path = world.path(rec(receiver));
        return k < path.size() ? path.get(k) : NOT_FOUND;
    }

    public int bottleneck(int receiver) {
        if (!here(receiver)) {
            return INVALID;
        }
        TreeSet<Integer> ascending = new TreeSet<>(world.pathLinks(rec(receiver)));
        int found = NOT_FOUND;
        int least = Integer.MAX_VALUE;
        for (int l : ascending) {
            int free = world.links.get(l).capacity - world.linkLoad(l);
            if (free < least) {
                least = free;
                found = l;
            }
        }
        return found;
    }

    public int shared(int receiver, int other) {
        if (!here(receiver) || !here(other)) {
            return INVALID;
        }
        List<Integer> common = world.pathLinks(rec(receiver));
        common.retainAll(world.pathLinks(rec(other)));
        return common.size();
    }

    public int neediest() {
        for (int lack = 5; lack > 0; lack--) {
            for (int r = 0; r < world.receivers.size(); r++) {
                if (!rec(r).left && rec(r).wanted - rec(r).level == lack) {
                    return r;
                }
            }
        }
        return NOT_FOUND;
    }

    public boolean isInTree(int node) {
        return node(node) && world.inTree(node);
    }

    public int parent(int node) {
        return node(node) ? world.parents.getOrDefault(node, NOT_FOUND) : INVALID;
    }

    public int delay(int node) {
        if (!node(node)) {
            return INVALID;
        }
        return world.inTree(node) ? world.delay(node) : NOT_FOUND;
    }

    public int below(int node) {
        if (!node(node)) {
            return INVALID;
        }
        if (!world.inTree(node)) {
            return NOT_FOUND;
        }
        int count = 0;
        for (int v : world.parents.keySet()) {
            if (v != node && world.isAtOrBelow(v, node)) {
                count++;
            }
        }
        return count;
    }

    public int demand(int node, int format) {
        return node(node) && format(format) ? world.demand(node, format) : INVALID;
    }

    public int linkLoad(int link) {
        return link(link) ? world.linkLoad(link) : INVALID;
    }

    public int cpuLoad(int node) {
        return node(node) ? world.cpuLoad(node) : INVALID;
    }

    public boolean isPlaced(int node, int format) {
        return node(node) && format(format) && world.converts(node, format);
    }

    public int total(int what) {
        int sum = 0;
        switch (what) {
            case 0:
                return world.levelSum();
            case 1:
                for (Receiver r : world.receivers) {
                    sum += r.left ? 0 : r.wanted;
                }
                return sum;
            case 2:
                for (int i = 0; i < world.links.size(); i++) {
                    sum += world.linkLoad(i);
                }
                return sum;
            case 3:
                return world.parents.size() + 1;
            case 4:
                return world.converters.size();
            case 5:
                for (int v : world.parents.keySet()) {
                    sum = Math.max(sum, world.delay(v));
                }
                return sum;
            case 6:
                for (Receiver r : world.receivers) {
                    sum += r.level == r.wanted ? 1 : 0;
                }
                return sum;
            case 7:
                for (Receiver r : world.receivers) {
                    sum += r.left ? 0 : 1;
                }
                return sum;
            default:
                return INVALID;
        }
    }

    public int busiest(int rank) {
        if (rank < 0) {
            return INVALID;
        }
        List<int[]> order = new ArrayList<>();
        for (int i = 0; i < world.links.size(); i++) {
            int load = world.linkLoad(i);
            order.add(new int[] {load == 0 ? 0 : load * 1000 / world.links.get(i).capacity, i});
        }
        order.sort((x, y) -> x[0] != y[0] ? y[0] - x[0] : x[1] - y[1]);
        return rank < order.size() ? order.get(rank)[1] : NOT_FOUND;
    }

    public int offer(int node, int format) {
        if (!node(node) || !format(format)) {
            return INVALID;
        }
        World trial = world.copy();
        Receiver r = new Receiver();
        r.node = node;
        r.format = format;
        r.wanted = world.layers();
        trial.receivers.add(r);
        trial.join(r);
        return r.level;
    }

    public int graftNode(int node, int format, int level, int k) {
        if (!node(node) || !format(format) || !lev(level) || k < 0) {
            return INVALID;
        }
        if (world.inTree(node)) {
            return NOT_FOUND;
        }
        List<Integer> path = world.graftPath(node, world.rate(format, level));
        return path != null && k < path.size() ? path.get(k) : NOT_FOUND;
    }

    public int gain(int node, int format) {
        if (!node(node) || !format(format) || format == 0) {
            return INVALID;
        }
        return world.copy().gain(node, format);
    }

    public int bestPlace(int format) {
        if (!format(format) || format == 0) {
            return INVALID;
        }
        int found = NOT_FOUND;
        int most = -1;
        for (int v = 0; v < world.nodes; v++) {
            int g = gain(v, format);
            if (g != NOT_FOUND && g > most) {
                most = g;
                found = v;
            }
        }
        return found;
    }

    public int loss(int link) {
        if (!link(link)) {
            return INVALID;
        }
        return world.links.get(link).open ? world.copy().close(link) : 0;
    }

    public int criticalLink() {
        int found = NOT_FOUND;
        int most = Integer.MIN_VALUE;
        for (int i = 0; i < world.links.size(); i++) {
            if (isOpen(i) && loss(i) > most) {
                most = loss(i);
                found = i;
            }
        }
        return found;
    }

    private String report() {
        StringBuilder lines = new StringBuilder();
        for (int v : world.parents.keySet()) {
            lines.append(v).append(' ').append(world.parents.get(v)).append(' ');
            for (int f = 0; f < world.layerRates.size(); f++) {
                lines.append(world.asks(v, f));
            }
            lines.append('\n');
        }
        return lines.toString();
    }

    public int reportLength() {
        return report().length();
    }

    public int reportByte(int i) {
        if (i < 0) {
            return INVALID;
        }
        return i < report().length() ? report().charAt(i) : NOT_FOUND;
    }

    public int tapeLength() {
        return tape.length();
    }
}
