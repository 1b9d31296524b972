import java.util.Arrays;

/** A simulator of a layered multicast tree with transcoding nodes. */
public final class LayeredMulticast {

    /** Result of a call with an invalid argument. */
    public static final int INVALID = -1;
    /** Result of a call that finds nothing or is not possible. */
    public static final int NOT_FOUND = -2;

    private static final int NONE = -1;
    private static final int SOURCE = 0;
    private static final int NATIVE = 0;
    private static final int MAX_NODES = 16;
    private static final int MAX_LINKS = 32;
    private static final int MAX_FORMATS = 4;
    private static final int MAX_LAYERS = 5;
    private static final int MAX_RECEIVERS = 20;
    private static final int MAX_CAPACITY = 9999;
    private static final int MAX_CPU = 999;
    private static final int MAX_RATE = 999;
    private static final int MAX_DELAY = 99;
    private static final int MAX_COST = 99;
    private static final int MAX_UNDO = 10;
    private static final int MAX_TAPE = 1400;
    private static final int CHUNK = 20;
    /** No more levels than these can be won or lost one by one. */
    private static final int MAX_LEVEL_SUM = (MAX_RECEIVERS + 1) * MAX_LAYERS;

    private final Setup setup = new Setup();
    private final Setup draft = new Setup();
    private final State state = new State();
    private final State saved = new State();
    private final History history = new History();
    private final Tape tape = new Tape();
    private final SetupReader reader = new SetupReader(tape, draft);
    private final Shape shape = new Shape(setup, state);
    private final Flow flow = new Flow(setup, state, shape);
    private final Grafter grafter = new Grafter(setup, state, shape);
    private final Tree tree = new Tree(setup, state, shape, flow, grafter);
    private final Report report = new Report(setup, state, flow);
    private int errorIndex = NOT_FOUND;

    public LayeredMulticast() {
        setup.makeSmallest();
        state.begin(setup);
    }

    // ---- setup

    public int append(int a, int b, int c, int d, int e) {
        if (tape.length + CHUNK > MAX_TAPE) {
            return INVALID;
        }
        tape.putWord(a);
        tape.putWord(b);
        tape.putWord(c);
        tape.putWord(d);
        tape.putWord(e);
        return tape.length;
    }

    public int truncate(int n) {
        if (n < 0 || n > tape.length) {
            return INVALID;
        }
        tape.length -= n;
        return tape.length;
    }

    public int load() {
        boolean good = reader.readSetup();
        tape.length = 0;
        if (!good) {
            errorIndex = reader.tokenStart;
            return INVALID;
        }
        errorIndex = NOT_FOUND;
        setup.copyFrom(draft);
        state.begin(setup);
        history.forget();
        return setup.nodes;
    }

    public int errorPosition() {
        return errorIndex;
    }

    public int nodes() {
        return setup.nodes;
    }

    public int links() {
        return setup.links;
    }

    public int formats() {
        return setup.formats;
    }

    public int layers() {
        return setup.layers;
    }

    public int rate(int format, int level) {
        if (!isFormat(format) || !isLevel(level)) {
            return INVALID;
        }
        return setup.rateOf(format, level);
    }

    public int linkBetween(int a, int b) {
        if (!isNode(a) || !isNode(b)) {
            return INVALID;
        }
        int link = setup.linkAt[a * MAX_NODES + b];
        return link == NONE ? NOT_FOUND : link;
    }

    public int capacity(int link) {
        return isLink(link) ? state.capacity[link] : INVALID;
    }

    public boolean isOpen(int link) {
        return isLink(link) && state.open[link];
    }

    // ---- operations

    public int addReceiver(int node, int format, int wanted) {
        if (!isNode(node) || !isFormat(format) || !isLevel(wanted)) {
            return INVALID;
        }
        if (state.receivers >= MAX_RECEIVERS) {
            return NOT_FOUND;
        }
        history.keep(state);
        int receiver = state.enrol(node, format, wanted);
        tree.join(receiver);
        return receiver;
    }

    public int leave(int receiver) {
        if (!isPresent(receiver)) {
            return INVALID;
        }
        history.keep(state);
        int had = state.level[receiver];
        state.level[receiver] = 0;
        state.left[receiver] = true;
        shape.prune();
        return had;
    }

    public int setWanted(int receiver, int wanted) {
        if (!isPresent(receiver) || !isLevel(wanted)) {
            return INVALID;
        }
        if (state.wanted[receiver] == wanted) {
            return NOT_FOUND;
        }
        history.keep(state);
        state.wanted[receiver] = wanted;
        state.level[receiver] = Math.min(state.level[receiver], wanted);
        return state.level[receiver];
    }

    public int raise(int receiver) {
        if (!isPresent(receiver)) {
            return INVALID;
        }
        saved.copyFrom(state);
        int next = state.level[receiver] + 1;
        if (next > state.wanted[receiver] || !tree.tryLevel(receiver, next)) {
            return NOT_FOUND;
        }
        history.keep(saved);
        return next;
    }

    public boolean place(int node, int format) {
        if (!isNode(node) || !isMadeFormat(format)) {
            return false;
        }
        saved.copyFrom(state);
        if (!tree.tryConverter(node, format)) {
            return false;
        }
        history.keep(saved);
        return true;
    }

    public int remove(int node, int format) {
        if (!isNode(node) || !isMadeFormat(format)) {
            return INVALID;
        }
        int place = node * MAX_FORMATS + format;
        if (!state.placed[place]) {
            return NOT_FOUND;
        }
        history.keep(state);
        state.placed[place] = false;
        return tree.repair();
    }

    public int setCapacity(int link, int capacity) {
        if (!isLink(link) || capacity < 0 || capacity > MAX_CAPACITY) {
            return INVALID;
        }
        if (state.capacity[link] == capacity) {
            return NOT_FOUND;
        }
        history.keep(state);
        state.capacity[link] = capacity;
        return tree.repair();
    }

    public int setOpen(int link, boolean open) {
        if (!isLink(link)) {
            return INVALID;
        }
        if (state.open[link] == open) {
            return NOT_FOUND;
        }
        history.keep(state);
        if (open) {
            state.open[link] = true;
            return 0;
        }
        return tree.closeLink(link);
    }

    public int improve() {
        saved.copyFrom(state);
        int raised = tree.raiseAll();
        if (raised == 0) {
            return NOT_FOUND;
        }
        history.keep(saved);
        return raised;
    }

    public int rebuild() {
        saved.copyFrom(state);
        int growth = tree.growAnew();
        if (growth <= 0) {
            state.copyFrom(saved);
            return NOT_FOUND;
        }
        history.keep(saved);
        return growth;
    }

    public int undo() {
        if (history.kept == 0) {
            return INVALID;
        }
        history.takeBack(state);
        return history.kept;
    }

    // ---- receivers

    public int receivers() {
        return state.receivers;
    }

    public boolean hasLeft(int receiver) {
        return isAdded(receiver) && state.left[receiver];
    }

    public int level(int receiver) {
        return isAdded(receiver) ? state.level[receiver] : INVALID;
    }

    public int wanted(int receiver) {
        return isPresent(receiver) ? state.wanted[receiver] : INVALID;
    }

    public int servedAt(int receiver) {
        if (!isPresent(receiver)) {
            return INVALID;
        }
        int node = shape.servingNode(receiver);
        return node == NONE ? NOT_FOUND : node;
    }

    public int pathNode(int receiver, int k) {
        if (!isPresent(receiver) || k < 0) {
            return INVALID;
        }
        int node = shape.pathStart(receiver);
        for (int i = 0; i < k && i < MAX_NODES && node != NONE; i++) {
            node = state.parent[node];
        }
        return node == NONE ? NOT_FOUND : node;
    }

    public int bottleneck(int receiver) {
        if (!isPresent(receiver)) {
            return INVALID;
        }
        flow.measure();
        int found = NOT_FOUND;
        int least = 0;
        int node = shape.pathStart(receiver);
        for (int i = 0; i < MAX_NODES && node > SOURCE; i++) {
            int link = shape.uplink(node);
            if (link != NONE) {
                int free = state.capacity[link] - flow.linkLoad[link];
                if (found == NOT_FOUND || free < least || (free == least && link < found)) {
                    found = link;
                    least = free;
                }
            }
            node = state.parent[node];
        }
        return found;
    }

    public int shared(int receiver, int other) {
        if (!isPresent(receiver) || !isPresent(other)) {
            return INVALID;
        }
        int common = shape.pathNodes(receiver) & shape.pathNodes(other);
        // each node but the source stands for its uplink
        return Integer.bitCount(common & ~(1 << SOURCE));
    }

    public int neediest() {
        int found = NOT_FOUND;
        int most = 0;
        for (int r = 0; r < state.receivers; r++) {
            int lack = state.left[r] ? 0 : state.wanted[r] - state.level[r];
            if (lack > most) {
                found = r;
                most = lack;
            }
        }
        return found;
    }

    // ---- the tree

    public boolean isInTree(int node) {
        return isNode(node) && state.inTree[node];
    }

    public int parent(int node) {
        if (!isNode(node)) {
            return INVALID;
        }
        int found = state.parent[node];
        return found == NONE ? NOT_FOUND : found;
    }

    public int delay(int node) {
        if (!isNode(node)) {
            return INVALID;
        }
        return state.inTree[node] ? shape.delayTo(node) : NOT_FOUND;
    }

    public int below(int node) {
        if (!isNode(node)) {
            return INVALID;
        }
        return state.inTree[node] ? Integer.bitCount(shape.subtree(node)) - 1 : NOT_FOUND;
    }

    public int demand(int node, int format) {
        if (!isNode(node) || !isFormat(format)) {
            return INVALID;
        }
        flow.measure();
        return flow.demand[node * MAX_FORMATS + format];
    }

    public int linkLoad(int link) {
        if (!isLink(link)) {
            return INVALID;
        }
        flow.measure();
        return flow.linkLoad[link];
    }

    public int cpuLoad(int node) {
        if (!isNode(node)) {
            return INVALID;
        }
        flow.measure();
        return flow.cpuLoad[node];
    }

    public boolean isPlaced(int node, int format) {
        return isNode(node) && isFormat(format) && state.placed[node * MAX_FORMATS + format];
    }

    public int total(int what) {
        switch (what) {
            case 0:
                return state.levelSum();
            case 1:
                return wantedSum();
            case 2:
                return flow.loadSum();
            case 3:
                return Integer.bitCount(shape.subtree(SOURCE));
            case 4:
                return state.converterCount();
            case 5:
                return shape.greatestDelay();
            case 6:
                return contentCount();
            case 7:
                return presentCount();
            default:
                return INVALID;
        }
    }

    public int busiest(int rank) {
        if (rank < 0) {
            return INVALID;
        }
        flow.measure();
        for (int link = 0; link < setup.links; link++) {
            if (flow.busierThan(link) == rank) {
                return link;
            }
        }
        return NOT_FOUND;
    }

    // ---- questions

    public int offer(int node, int format) {
        if (!isNode(node) || !isFormat(format)) {
            return INVALID;
        }
        saved.copyFrom(state);
        int receiver = state.enrol(node, format, setup.layers);
        int got = tree.join(receiver);
        state.copyFrom(saved);
        return got;
    }

    public int graftNode(int node, int format, int level, int k) {
        if (!isNode(node) || !isFormat(format) || !isLevel(level) || k < 0) {
            return INVALID;
        }
        if (state.inTree[node] || !grafter.findPath(node, setup.rateOf(format, level))) {
            return NOT_FOUND;
        }
        return k < grafter.length ? grafter.path[k] : NOT_FOUND;
    }

    public int gain(int node, int format) {
        if (!isNode(node) || !isMadeFormat(format)) {
            return INVALID;
        }
        saved.copyFrom(state);
        if (!tree.tryConverter(node, format)) {
            return NOT_FOUND;
        }
        int raised = tree.raiseAll();
        state.copyFrom(saved);
        return raised;
    }

    public int bestPlace(int format) {
        if (!isMadeFormat(format)) {
            return INVALID;
        }
        int found = NOT_FOUND;
        // NOT_FOUND is less than any growth
        int most = NOT_FOUND;
        for (int node = 0; node < setup.nodes; node++) {
            int growth = gain(node, format);
            if (growth > most) {
                found = node;
                most = growth;
            }
        }
        return found;
    }

    public int loss(int link) {
        if (!isLink(link)) {
            return INVALID;
        }
        if (!state.open[link]) {
            return 0;
        }
        saved.copyFrom(state);
        int lost = tree.closeLink(link);
        state.copyFrom(saved);
        return lost;
    }

    public int criticalLink() {
        int found = NOT_FOUND;
        int most = 0;
        saved.copyFrom(state);
        for (int link = 0; link < setup.links; link++) {
            if (state.open[link]) {
                int lost = tree.closeLink(link);
                state.copyFrom(saved);
                if (found == NOT_FOUND || lost > most) {
                    found = link;
                    most = lost;
                }
            }
        }
        return found;
    }

    // ---- texts

    public int reportLength() {
        report.write();
        return report.length;
    }

    public int reportByte(int i) {
        if (i < 0) {
            return INVALID;
        }
        report.write();
        return i < report.length ? report.text[i] : NOT_FOUND;
    }

    public int tapeLength() {
        return tape.length;
    }

    // ---- arguments

    private boolean isNode(int node) {
        return node >= 0 && node < setup.nodes;
    }

    private boolean isLink(int link) {
        return link >= 0 && link < setup.links;
    }

    private boolean isFormat(int format) {
        return format >= 0 && format < setup.formats;
    }

    private boolean isMadeFormat(int format) {
        return format != NATIVE && isFormat(format);
    }

    private boolean isLevel(int level) {
        return level >= 1 && level <= setup.layers;
    }

    private boolean isAdded(int receiver) {
        return receiver >= 0 && receiver < state.receivers;
    }

    private boolean isPresent(int receiver) {
        return isAdded(receiver) && !state.left[receiver];
    }

    // ---- totals

    private int wantedSum() {
        int sum = 0;
        for (int r = 0; r < state.receivers; r++) {
            sum += state.left[r] ? 0 : state.wanted[r];
        }
        return sum;
    }

    private int contentCount() {
        int count = 0;
        for (int r = 0; r < state.receivers; r++) {
            count += !state.left[r] && state.level[r] == state.wanted[r] ? 1 : 0;
        }
        return count;
    }

    private int presentCount() {
        int count = 0;
        for (int r = 0; r < state.receivers; r++) {
            count += state.left[r] ? 0 : 1;
        }
        return count;
    }

    /** What a setup text fixes: the network and the stream. */
    private static final class Setup {
        int nodes;
        int links;
        int formats;
        int layers;
        final int[] linkStart = new int[MAX_LINKS];
        final int[] linkEnd = new int[MAX_LINKS];
        final int[] linkCapacity = new int[MAX_LINKS];
        final int[] linkDelay = new int[MAX_LINKS];
        final int[] linkAt = new int[MAX_NODES * MAX_NODES];
        final int[] cpu = new int[MAX_NODES];
        final int[] cost = new int[MAX_FORMATS];
        /** For each format the rates of the levels 0 to MAX_LAYERS. */
        final int[] rates = new int[MAX_FORMATS * (MAX_LAYERS + 1)];

        void clear() {
            nodes = 0;
            links = 0;
            formats = 0;
            layers = 0;
            Arrays.fill(linkAt, NONE);
            Arrays.fill(cpu, 0);
        }

        void makeSmallest() {
            clear();
            nodes = 2;
            formats = 1;
            layers = 1;
            putRate(NATIVE, 1, 1);
        }

        void copyFrom(Setup other) {
            nodes = other.nodes;
            links = other.links;
            formats = other.formats;
            layers = other.layers;
            System.arraycopy(other.linkStart, 0, linkStart, 0, MAX_LINKS);
            System.arraycopy(other.linkEnd, 0, linkEnd, 0, MAX_LINKS);
            System.arraycopy(other.linkCapacity, 0, linkCapacity, 0, MAX_LINKS);
            System.arraycopy(other.linkDelay, 0, linkDelay, 0, MAX_LINKS);
            System.arraycopy(other.linkAt, 0, linkAt, 0, linkAt.length);
            System.arraycopy(other.cpu, 0, cpu, 0, MAX_NODES);
            System.arraycopy(other.cost, 0, cost, 0, MAX_FORMATS);
            System.arraycopy(other.rates, 0, rates, 0, rates.length);
        }

        void putLink(int a, int b, int linkCapacityGiven, int linkDelayGiven) {
            linkStart[links] = a;
            linkEnd[links] = b;
            linkCapacity[links] = linkCapacityGiven;
            linkDelay[links] = linkDelayGiven;
            linkAt[a * MAX_NODES + b] = links;
            linkAt[b * MAX_NODES + a] = links;
            links++;
        }

        /** Layer numbers begin with 1, so that a layer completes the level of its number. */
        void putRate(int format, int layer, int layerRate) {
            int at = format * (MAX_LAYERS + 1) + layer;
            rates[at] = rates[at - 1] + layerRate;
        }

        int rateOf(int format, int level) {
            return rates[format * (MAX_LAYERS + 1) + level];
        }
    }

    /** All that operations change, and so all that undo() brings back. */
    private static final class State {
        /** One more than can be added: the question of a new receiver may come when all are there. */
        static final int SEATS = MAX_RECEIVERS + 1;

        int receivers;
        final int[] node = new int[SEATS];
        final int[] format = new int[SEATS];
        final int[] wanted = new int[SEATS];
        final int[] level = new int[SEATS];
        final boolean[] left = new boolean[SEATS];
        final int[] capacity = new int[MAX_LINKS];
        final boolean[] open = new boolean[MAX_LINKS];
        final boolean[] placed = new boolean[MAX_NODES * MAX_FORMATS];
        final boolean[] inTree = new boolean[MAX_NODES];
        /** NONE for the source and for nodes that are not in the tree. */
        final int[] parent = new int[MAX_NODES];

        void begin(Setup setup) {
            receivers = 0;
            System.arraycopy(setup.linkCapacity, 0, capacity, 0, MAX_LINKS);
            for (int link = 0; link < MAX_LINKS; link++) {
                open[link] = true;
            }
            for (int i = 0; i < placed.length; i++) {
                placed[i] = false;
            }
            clearTree();
        }

        void clearTree() {
            for (int i = 0; i < MAX_NODES; i++) {
                inTree[i] = i == SOURCE;
                parent[i] = NONE;
            }
        }

        void copyFrom(State other) {
            receivers = other.receivers;
            System.arraycopy(other.node, 0, node, 0, SEATS);
            System.arraycopy(other.format, 0, format, 0, SEATS);
            System.arraycopy(other.wanted, 0, wanted, 0, SEATS);
            System.arraycopy(other.level, 0, level, 0, SEATS);
            System.arraycopy(other.left, 0, left, 0, SEATS);
            System.arraycopy(other.capacity, 0, capacity, 0, MAX_LINKS);
            System.arraycopy(other.open, 0, open, 0, MAX_LINKS);
            System.arraycopy(other.placed, 0, placed, 0, placed.length);
            System.arraycopy(other.inTree, 0, inTree, 0, MAX_NODES);
            System.arraycopy(other.parent, 0, parent, 0, MAX_NODES);
        }

        int enrol(int atNode, int inFormat, int wantedLevel) {
            int receiver = Math.min(receivers, SEATS - 1);
            node[receiver] = atNode;
            format[receiver] = inFormat;
            wanted[receiver] = wantedLevel;
            level[receiver] = 0;
            left[receiver] = false;
            receivers = receiver + 1;
            return receiver;
        }

        int levelSum() {
            int sum = 0;
            for (int r = 0; r < receivers; r++) {
                sum += level[r];
            }
            return sum;
        }

        int converterCount() {
            int count = 0;
            for (int i = 0; i < placed.length; i++) {
                count += placed[i] ? 1 : 0;
            }
            return count;
        }
    }

    /** The states before the latest operations. */
    private static final class History {
        final State[] states = new State[MAX_UNDO];
        int kept;
        int next;

        History() {
            for (int i = 0; i < MAX_UNDO; i++) {
                states[i] = new State();
            }
        }

        void forget() {
            kept = 0;
        }

        void keep(State before) {
            states[next].copyFrom(before);
            next = next + 1 < MAX_UNDO ? next + 1 : 0;
            kept = Math.min(kept + 1, MAX_UNDO);
        }

        void takeBack(State state) {
            if (kept > 0) {
                next = next > 0 ? next - 1 : MAX_UNDO - 1;
                kept--;
                state.copyFrom(states[next]);
            }
        }
    }

    /** The bytes from which a setup is read. */
    private static final class Tape {
        final int[] bytes = new int[MAX_TAPE];
        int length;

        void putWord(int word) {
            for (int shift = 24; shift >= 0; shift -= 8) {
                if (length < MAX_TAPE) {
                    bytes[length] = (word >>> shift) & 255;
                    length++;
                }
            }
        }

        /** NONE behind the end, which is no byte. */
        int byteAt(int i) {
            return i >= 0 && i < length ? bytes[i] : NONE;
        }
    }

    /** Reads the tape into a setup; where it fails, tokenStart is the error position. */
    private static final class SetupReader {
        private static final int END = 0;
        private static final int WORD = 1;
        private static final int NUMBER = 2;
        private static final int SEMICOLON = 3;
        private static final int WRONG = 4;
        private static final int MAX_DIGITS = 4;

        private final Tape tape;
        private final Setup draft;
        private int kind;
        /** The value of a number, NONE for any other token. */
        private int value;
        private int tokenEnd;
        int tokenStart;

        SetupReader(Tape tape, Setup draft) {
            this.tape = tape;
            this.draft = draft;
        }

        boolean readSetup() {
            draft.clear();
            tokenEnd = 0;
            nextToken();
            return readNodes() && readLinks() && readCpus() && readNative() && readFormats()
                    && kind == END;
        }

        private boolean readNodes() {
            if (!takeWord("nodes")) {
                return false;
            }
            draft.nodes = takeNumber(2, MAX_NODES);
            return draft.nodes != NONE && takeSemicolon();
        }

        private boolean readLinks() {
            for (int i = 0; i <= MAX_LINKS && isWord("link"); i++) {
                if (draft.links == MAX_LINKS) {
                    return false;
                }
                nextToken();
                if (!readLink()) {
                    return false;
                }
            }
            return true;
        }

        private boolean readLink() {
            int a = takeNumber(0, draft.nodes - 1);
            if (a == NONE || value == a || isLinked(a, value)) {
                return false;
            }
            int b = takeNumber(0, draft.nodes - 1);
            if (b == NONE || !takeWord("capacity")) {
                return false;
            }
            int linkCapacity = takeNumber(0, MAX_CAPACITY);
            if (linkCapacity == NONE || !takeWord("delay")) {
                return false;
            }
            int linkDelay = takeNumber(1, MAX_DELAY);
            if (linkDelay == NONE || !takeSemicolon()) {
                return false;
            }
            draft.putLink(a, b, linkCapacity, linkDelay);
            return true;
        }

        private boolean isLinked(int a, int b) {
            return b >= 0 && b < draft.nodes && draft.linkAt[a * MAX_NODES + b] != NONE;
        }

        private boolean readCpus() {
            int seen = 0;
            for (int i = 0; i <= MAX_NODES && isWord("cpu"); i++) {
                nextToken();
                if (value >= 0 && value < draft.nodes && (seen >> value & 1) == 1) {
                    return false;
                }
                int node = takeNumber(0, draft.nodes - 1);
                if (node == NONE) {
                    return false;
                }
                seen |= 1 << node;
                int power = takeNumber(0, MAX_CPU);
                if (power == NONE || !takeSemicolon()) {
                    return false;
                }
                draft.cpu[node] = power;
            }
            return true;
        }

        private boolean readNative() {
            if (!takeWord("native") || !takeRate(NATIVE, 1)) {
                return false;
            }
            int layer = 1;
            for (int i = 1; i < MAX_LAYERS && kind == NUMBER; i++) {
                layer++;
                if (!takeRate(NATIVE, layer)) {
                    return false;
                }
            }
            draft.layers = layer;
            draft.formats = 1;
            return takeSemicolon();
        }

        private boolean readFormats() {
            for (int i = 0; i < MAX_FORMATS && isWord("format"); i++) {
                if (draft.formats == MAX_FORMATS) {
                    return false;
                }
                nextToken();
                if (!readFormat(draft.formats)) {
                    return false;
                }
                draft.formats++;
            }
            return true;
        }

        private boolean readFormat(int format) {
            int cost = takeNumber(1, MAX_COST);
            if (cost == NONE || !takeWord("rates")) {
                return false;
            }
            draft.cost[format] = cost;
            for (int layer = 1; layer <= draft.layers; layer++) {
                if (!takeRate(format, layer)) {
                    return false;
                }
            }
            return takeSemicolon();
        }

        private boolean takeRate(int format, int layer) {
            // a token that is no number has the value NONE
            if (value < 1 || value > MAX_RATE) {
                return false;
            }
            draft.putRate(format, layer, value);
            nextToken();
            return true;
        }

        private boolean takeWord(String word) {
            if (!isWord(word)) {
                return false;
            }
            nextToken();
            return true;
        }

        private boolean takeSemicolon() {
            if (kind != SEMICOLON) {
                return false;
            }
            nextToken();
            return true;
        }

        /** NONE if the token is no number of this range; then it stays the token. */
        private int takeNumber(int least, int greatest) {
            if (kind != NUMBER || value < least || value > greatest) {
                return NONE;
            }
            int taken = value;
            nextToken();
            return taken;
        }

        private boolean isWord(String word) {
            if (kind != WORD || tokenEnd - tokenStart != word.length()) {
                return false;
            }
            for (int i = 0; i < word.length(); i++) {
                if (tape.byteAt(tokenStart + i) != word.charAt(i)) {
                    return false;
                }
            }
            return true;
        }

        private void nextToken() {
            tokenStart = tokenEnd;
            for (int i = tokenEnd; i < tape.length && isSpace(tape.byteAt(i)); i++) {
                tokenStart = i + 1;
            }
            tokenEnd = tokenStart;
            value = NONE;
            int first = tape.byteAt(tokenStart);
            if (first == NONE) {
                kind = END;
            } else if (isLetter(first)) {
                kind = WORD;
                endWord();
            } else if (isDigit(first)) {
                endNumber();
            } else {
                kind = first == ';' ? SEMICOLON : WRONG;
                tokenEnd = tokenStart + 1;
            }
        }

        private void endWord() {
            for (int i = tokenStart; i < tape.length && isLetter(tape.byteAt(i)); i++) {
                tokenEnd = i + 1;
            }
        }

        private void endNumber() {
            int sum = 0;
            for (int i = tokenStart; i < tape.length && isDigit(tape.byteAt(i)); i++) {
                tokenEnd = i + 1;
                // a run that is too long is no number, so that its value may be cut
                sum = (sum * 10 + tape.byteAt(i) - '0') % 10000;
            }
            boolean good = tokenEnd - tokenStart <= MAX_DIGITS;
            kind = good ? NUMBER : WRONG;
            value = good ? sum : NONE;
        }

        private static boolean isSpace(int c) {
            return c == 32 || c == 10;
        }

        private static boolean isLetter(int c) {
            return c >= 'a' && c <= 'z';
        }

        private static boolean isDigit(int c) {
            return c >= '0' && c <= '9';
        }
    }

    /** The tree as a graph: paths to the source, subtrees, pruning. Sets of nodes are bit masks. */
    private static final class Shape {
        private final Setup setup;
        private final State state;

        Shape(Setup setup, State state) {
            this.setup = setup;
            this.state = state;
        }

        /** The link to the parent; NONE for the source and for nodes that are not in the tree. */
        int uplink(int node) {
            int above = state.parent[node];
            return above == NONE ? NONE : setup.linkAt[above * MAX_NODES + node];
        }

        int delayTo(int node) {
            int sum = 0;
            int at = node;
            for (int i = 0; i < MAX_NODES && at > SOURCE; i++) {
                int above = state.parent[at];
                int link = above == NONE ? NONE : setup.linkAt[above * MAX_NODES + at];
                sum += link == NONE ? 0 : setup.linkDelay[link];
                at = above;
            }
            return sum;
        }

        int greatestDelay() {
            int greatest = 0;
            for (int node = 0; node < setup.nodes; node++) {
                greatest = Math.max(greatest, delayTo(node));
            }
            return greatest;
        }

        /** The node of the receiver; NONE if it has no path. */
        int pathStart(int receiver) {
            return state.level[receiver] > 0 ? state.node[receiver] : NONE;
        }

        int pathNodes(int receiver) {
            return nodesUp(pathStart(receiver));
        }

        private int nodesUp(int from) {
            int found = 0;
            int at = from;
            for (int i = 0; i < MAX_NODES && at != NONE; i++) {
                found |= 1 << at;
                at = state.parent[at];
            }
            return found;
        }

        /** The tree nodes at and below a tree node. */
        int subtree(int top) {
            int found = 0;
            for (int node = 0; node < setup.nodes; node++) {
                if (state.inTree[node] && (nodesUp(node) >> top & 1) == 1) {
                    found |= 1 << node;
                }
            }
            return found;
        }

        /** NONE if no node serves the receiver, as it is with level 0 and with the native format. */
        int servingNode(int receiver) {
            int format = state.format[receiver];
            int at = pathStart(receiver);
            for (int i = 0; i < MAX_NODES && at != NONE; i++) {
                if (state.placed[at * MAX_FORMATS + format]) {
                    return at;
                }
                at = state.parent[at];
            }
            return NONE;
        }

        void attach(int node, int above) {
            state.inTree[node] = true;
            state.parent[node] = above;
        }

        void detach(int node) {
            state.inTree[node] = false;
            state.parent[node] = NONE;
        }

        /** What pruning leaves are the source and the paths of the receivers. */
        void prune() {
            int needed = 1 << SOURCE;
            for (int r = 0; r < state.receivers; r++) {
                needed |= pathNodes(r);
            }
            for (int node = 0; node < setup.nodes; node++) {
                if ((needed >> node & 1) == 0) {
                    detach(node);
                }
            }
        }
    }

    /** Demands and loads, as they were when they were last measured. */
    private static final class Flow {
        private final Setup setup;
        private final State state;
        private final Shape shape;
        final int[] demand = new int[MAX_NODES * MAX_FORMATS];
        final int[] linkLoad = new int[MAX_LINKS];
        final int[] cpuLoad = new int[MAX_NODES];

        Flow(Setup setup, State state, Shape shape) {
            this.setup = setup;
            this.state = state;
            this.shape = shape;
        }

        void measure() {
            Arrays.fill(demand, 0);
            Arrays.fill(linkLoad, 0);
            Arrays.fill(cpuLoad, 0);
            for (int r = 0; r < state.receivers; r++) {
                carryUp(r);
            }
            for (int node = 0; node < setup.nodes; node++) {
                addLoads(node);
            }
        }

        /**
         * Demands are maxima, so each receiver can be followed alone: above the first converter
         * for its format it is one of the native format.
         */
        private void carryUp(int receiver) {
            int format = state.format[receiver];
            int at = shape.pathStart(receiver);
            for (int i = 0; i < MAX_NODES && at != NONE; i++) {
                need(at, format, state.level[receiver]);
                if (state.placed[at * MAX_FORMATS + format]) {
                    format = NATIVE;
                    need(at, format, state.level[receiver]);
                }
                at = state.parent[at];
            }
        }

        private void need(int node, int format, int level) {
            int at = node * MAX_FORMATS + format;
            if (demand[at] < level) {
                demand[at] = level;
            }
        }

        private void addLoads(int node) {
            int link = shape.uplink(node);
            for (int format = 0; format < setup.formats; format++) {
                if (state.placed[node * MAX_FORMATS + format]) {
                    cpuLoad[node] += setup.cost[format] * demand[node * MAX_FORMATS + format];
                } else if (link != NONE) {
                    linkLoad[link] += setup.rateOf(format, demand[node * MAX_FORMATS + format]);
                }
            }
        }

        int asked(int node, int format) {
            int at = node * MAX_FORMATS + format;
            return state.placed[at] ? 0 : demand[at];
        }

        int loadSum() {
            measure();
            int sum = 0;
            for (int link = 0; link < setup.links; link++) {
                sum += linkLoad[link];
            }
            return sum;
        }

        boolean fits() {
            return overloadedLink() == NONE && overloadedNode() == NONE && unmadeFormat() == NONE;
        }

        int overloadedLink() {
            for (int link = 0; link < setup.links; link++) {
                if (linkLoad[link] > state.capacity[link]) {
                    return link;
                }
            }
            return NONE;
        }

        int overloadedNode() {
            for (int node = 0; node < setup.nodes; node++) {
                if (cpuLoad[node] > setup.cpu[node]) {
                    return node;
                }
            }
            return NONE;
        }

        /** A format that the source would have to make without a converter. */
        int unmadeFormat() {
            for (int format = NATIVE + 1; format < setup.formats; format++) {
                if (asked(SOURCE, format) > 0) {
                    return format;
                }
            }
            return NONE;
        }

        /** How many links stand before this one in the order of utilisation. */
        int busierThan(int link) {
            int own = utilisation(link);
            int count = 0;
            for (int other = 0; other < setup.links; other++) {
                int theirs = utilisation(other);
                if (theirs > own || (theirs == own && other < link)) {
                    count++;
                }
            }
            return count;
        }

        private int utilisation(int link) {
            int most = state.capacity[link];
            return most > 0 ? linkLoad[link] * 1000 / most : 0;
        }
    }

    /** Searches graft paths. */
    private static final class Grafter {
        /** A path costs its delay times this plus its number of links. */
        private static final int DELAY_WEIGHT = 64;
        private static final int UNREACHED = 1 << 24;

        private final Setup setup;
        private final State state;
        private final Shape shape;
        /** The cost of each link; UNREACHED if the path may not use it. */
        private final int[] linkCost = new int[MAX_LINKS];
        /** The least cost from each node to the goal, over nodes outside the tree. */
        private final int[] costLeft = new int[MAX_NODES];
        final int[] path = new int[MAX_NODES];
        int length;

        Grafter(Setup setup, State state, Shape shape) {
            this.setup = setup;
            this.state = state;
            this.shape = shape;
        }

        boolean findPath(int goal, int neededRate) {
            weighLinks(neededRate);
            Arrays.fill(costLeft, UNREACHED);
            costLeft[goal] = 0;
            boolean changed = true;
            for (int i = 0; i < MAX_NODES && changed; i++) {
                changed = spread();
            }
            length = 0;
            int at = firstNode();
            for (int i = 0; i < MAX_NODES && at != NONE; i++) {
                path[i] = at;
                length = i + 1;
                at = at == goal ? NONE : nextNode(at);
            }
            return length > 0;
        }

        private void weighLinks(int neededRate) {
            for (int link = 0; link < setup.links; link++) {
                boolean usable = state.open[link] && state.capacity[link] >= neededRate;
                linkCost[link] = usable ? setup.linkDelay[link] * DELAY_WEIGHT + 1 : UNREACHED;
            }
        }

        private boolean spread() {
            boolean changed = false;
            for (int link = 0; link < setup.links; link++) {
                if (linkCost[link] < UNREACHED) {
                    int a = setup.linkStart[link];
                    int b = setup.linkEnd[link];
                    changed |= shorten(a, b, linkCost[link]);
                    changed |= shorten(b, a, linkCost[link]);
                }
            }
            return changed;
        }

        private boolean shorten(int from, int to, int cost) {
            if (state.inTree[to] || costLeft[to] + cost >= costLeft[from]) {
                return false;
            }
            costLeft[from] = costLeft[to] + cost;
            return true;
        }

        private int firstNode() {
            int found = NONE;
            int least = UNREACHED;
            for (int node = 0; node < setup.nodes; node++) {
                if (state.inTree[node] && costLeft[node] < UNREACHED) {
                    int cost = shape.delayTo(node) * DELAY_WEIGHT + costLeft[node];
                    if (cost < least) {
                        found = node;
                        least = cost;
                    }
                }
            }
            return found;
        }

        /** The least node on a cheapest path onwards: so the whole path is lexicographically least. */
        private int nextNode(int at) {
            for (int node = 0; node < setup.nodes; node++) {
                int link = setup.linkAt[at * MAX_NODES + node];
                if (link != NONE && !state.inTree[node]
                        && costLeft[node] + linkCost[link] == costLeft[at]) {
                    return node;
                }
            }
            return NONE;
        }

        void attachPath() {
            for (int i = 1; i < length; i++) {
                shape.attach(path[i], path[i - 1]);
            }
        }

        void detachPath() {
            for (int i = 1; i < length; i++) {
                shape.detach(path[i]);
            }
        }
    }

    /** The changes of the tree: joining, lowering, cutting and growing anew. */
    private static final class Tree {
        private final Setup setup;
        private final State state;
        private final Shape shape;
        private final Flow flow;
        private final Grafter grafter;

        Tree(Setup setup, State state, Shape shape, Flow flow, Grafter grafter) {
            this.setup = setup;
            this.state = state;
            this.shape = shape;
            this.flow = flow;
            this.grafter = grafter;
        }

        int join(int receiver) {
            for (int level = state.wanted[receiver]; level >= 1; level--) {
                if (tryLevel(receiver, level)) {
                    return level;
                }
            }
            return 0;
        }

        boolean tryLevel(int receiver, int level) {
            int node = state.node[receiver];
            int before = state.level[receiver];
            boolean grafted = !state.inTree[node];
            if (grafted) {
                if (!grafter.findPath(node, setup.rateOf(state.format[receiver], level))) {
                    return false;
                }
                grafter.attachPath();
            }
            state.level[receiver] = level;
            flow.measure();
            if (flow.fits()) {
                return true;
            }
            state.level[receiver] = before;
            if (grafted) {
                grafter.detachPath();
            }
            return false;
        }

        boolean tryConverter(int node, int format) {
            int place = node * MAX_FORMATS + format;
            if (state.placed[place]) {
                return false;
            }
            state.placed[place] = true;
            flow.measure();
            if (flow.fits()) {
                return true;
            }
            state.placed[place] = false;
            return false;
        }

        int raiseAll() {
            int raised = 0;
            // each pass but the last one wins a level
            for (int pass = 0; pass <= MAX_LEVEL_SUM; pass++) {
                int before = raised;
                for (int r = 0; r < state.receivers; r++) {
                    int next = state.level[r] + 1;
                    if (!state.left[r] && next <= state.wanted[r] && tryLevel(r, next)) {
                        raised++;
                    }
                }
                if (raised == before) {
                    return raised;
                }
            }
            return raised;
        }

        int growAnew() {
            int before = state.levelSum();
            state.clearTree();
            Arrays.fill(state.level, 0);
            for (int r = 0; r < state.receivers; r++) {
                if (!state.left[r]) {
                    join(r);
                }
            }
            return state.levelSum() - before;
        }

        int closeLink(int link) {
            int before = state.levelSum();
            state.open[link] = false;
            int cut = cutAt(link);
            shape.prune();
            for (int r = 0; r < state.receivers; r++) {
                if ((cut >> r & 1) == 1) {
                    join(r);
                }
            }
            return before - state.levelSum();
        }

        /**
         * Takes the levels of the receivers below a link, and returns those that had one. Pruning
         * then removes all nodes below the link, as nobody there has a level.
         */
        private int cutAt(int link) {
            int top = lowerEnd(link);
            int nodes = top == NONE ? 0 : shape.subtree(top);
            int cut = 0;
            for (int r = 0; r < state.receivers; r++) {
                if (state.level[r] > 0 && (nodes >> state.node[r] & 1) == 1) {
                    cut |= 1 << r;
                    state.level[r] = 0;
                }
            }
            return cut;
        }

        /** The node whose uplink this is; NONE if the link is not in the tree. */
        private int lowerEnd(int link) {
            int a = setup.linkStart[link];
            int b = setup.linkEnd[link];
            if (state.parent[a] == b) {
                return a;
            }
            return state.parent[b] == a ? b : NONE;
        }

        int repair() {
            int lowered = 0;
            for (int i = 0; i <= MAX_LEVEL_SUM; i++) {
                flow.measure();
                int receiver = nextToLower();
                if (receiver == NONE) {
                    return lowered;
                }
                state.level[receiver]--;
                lowered++;
                shape.prune();
            }
            return lowered;
        }

        private int nextToLower() {
            int link = flow.overloadedLink();
            if (link != NONE) {
                return greatestBelow(lowerEnd(link));
            }
            int node = flow.overloadedNode();
            if (node != NONE) {
                return greatestServed(node);
            }
            int format = flow.unmadeFormat();
            return format == NONE ? NONE : greatestUnserved(format);
        }

        private int greatestBelow(int node) {
            int found = NONE;
            for (int r = 0; r < state.receivers; r++) {
                if (node != NONE && (shape.pathNodes(r) >> node & 1) == 1) {
                    found = greater(found, r);
                }
            }
            return found;
        }

        private int greatestServed(int node) {
            int found = NONE;
            for (int r = 0; r < state.receivers; r++) {
                if (shape.servingNode(r) == node) {
                    found = greater(found, r);
                }
            }
            return found;
        }

        private int greatestUnserved(int format) {
            int found = NONE;
            for (int r = 0; r < state.receivers; r++) {
                if (state.level[r] > 0 && state.format[r] == format
                        && shape.servingNode(r) == NONE) {
                    found = greater(found, r);
                }
            }
            return found;
        }

        /** The one of greater level, the later one if they are equal. */
        private int greater(int earlier, int later) {
            if (earlier == NONE || state.level[later] >= state.level[earlier]) {
                return later;
            }
            return earlier;
        }
    }

    /** Writes the report. */
    private static final class Report {
        private static final int MAX_LINE = 11;

        private final Setup setup;
        private final State state;
        private final Flow flow;
        final int[] text = new int[MAX_NODES * MAX_LINE];
        int length;

        Report(Setup setup, State state, Flow flow) {
            this.setup = setup;
            this.state = state;
            this.flow = flow;
        }

        void write() {
            flow.measure();
            length = 0;
            for (int node = SOURCE + 1; node < setup.nodes; node++) {
                if (state.inTree[node]) {
                    writeLine(node);
                }
            }
        }

        private void writeLine(int node) {
            putNumber(node);
            put(' ');
            putNumber(state.parent[node]);
            put(' ');
            for (int format = 0; format < setup.formats; format++) {
                putNumber(flow.asked(node, format));
            }
            put('\n');
        }

        /** Node numbers and levels have two digits at most. */
        private void putNumber(int number) {
            if (number >= 10) {
                put('0' + number / 10);
            }
            put('0' + number % 10);
        }

        private void put(int c) {
            if (length < text.length) {
                text[length] = c;
                length++;
            }
        }
    }
}
