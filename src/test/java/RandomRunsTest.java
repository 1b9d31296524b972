import java.lang.reflect.Method;
import java.lang.reflect.Modifier;
import java.util.ArrayList;
import java.util.Comparator;
import java.util.List;
import java.util.Random;

/** Runs of random calls, each of which must answer as NaiveMulticast does. */
public final class RandomRunsTest {
    private static final int MOST_CALLS = 512;

    private final Random random;
    private final List<Method> calls = new ArrayList<>();
    private final List<String> told = new ArrayList<>();
    private LayeredMulticast real;
    private NaiveMulticast naive;
    private int made;
    /** Wide links and strong processors, few of which are closed: large trees and many converters. */
    private boolean rich;

    private RandomRunsTest(long seed) {
        random = new Random(seed);
        for (Method m : LayeredMulticast.class.getDeclaredMethods()) {
            if (Modifier.isPublic(m.getModifiers())) {
                calls.add(m);
            }
        }
        calls.sort(Comparator.comparing(Method::getName));
    }

    public static void main(String[] args) throws Exception {
        long first = args.length > 0 ? Long.parseLong(args[0]) : 1;
        int runs = args.length > 1 ? Integer.parseInt(args[1]) : 400;
        long compared = 0;
        for (long seed = first; seed < first + runs; seed++) {
            RandomRunsTest run = new RandomRunsTest(seed);
            try {
                run.run();
            } catch (WrongAnswer | ReflectiveOperationException wrong) {
                System.out.println("seed " + seed + ":");
                run.told.forEach(line -> System.out.println("  " + line));
                System.out.println(wrong);
                if (wrong.getCause() != null) {
                    wrong.getCause().printStackTrace(System.out);
                }
                System.exit(1);
            }
            compared += run.made;
        }
        System.out.println("RandomRunsTest: " + compared + " answers compared in " + runs + " runs");
    }

    private static final class WrongAnswer extends RuntimeException {
        private static final long serialVersionUID = 1L;

        WrongAnswer(String text) {
            super(text);
        }
    }

    private int upTo(int bound) {
        return bound <= 0 ? 0 : random.nextInt(bound);
    }

    private void run() throws ReflectiveOperationException {
        real = new LayeredMulticast();
        naive = new NaiveMulticast();
        boolean large = upTo(12) == 0;
        rich = upTo(2) == 0;
        int length = large ? 150 : MOST_CALLS;
        for (int i = 0; i < length && made < MOST_CALLS - 200; i++) {
            if (i == 3 || upTo(150) == 0) {
                loadText(large);
            } else {
                randomCall();
            }
        }
    }

    // ---- setups

    private void loadText(boolean large) throws ReflectiveOperationException {
        String text = setupText(large);
        if (upTo(6) == 0) {
            text = spoil(text);
        }
        if (text.length() > 1400) {
            text = text.substring(0, 1400);
        }
        call("truncate", naive.tapeLength());
        int at = 0;
        for (; at < text.length(); at += 20) {
            int[] w = Checks.words(text, at);
            call("append", w[0], w[1], w[2], w[3], w[4]);
        }
        call("truncate", at - text.length());
        call("load");
        call("errorPosition");
    }

    private String space() {
        String[] spaces = {"", "", "", " ", "\n", "  "};
        return spaces[upTo(spaces.length)];
    }

    private String setupText(boolean large) {
        int nodes = large ? 9 + upTo(8) : 2 + upTo(6);
        StringBuilder text = new StringBuilder(space() + "nodes" + space() + nodes + ";");
        int density = 1 + upTo(3);
        int widest = 4 + upTo(40);
        int narrowest = rich ? 4 + upTo(10) : 0;
        int strongest = rich ? 40 : 25;
        int slowest = 1 + upTo(4);
        int links = 0;
        for (int b = 1; b < nodes; b++) {
            for (int a = 0; a < b; a++) {
                boolean wanted = upTo(b) < density || upTo(8) == 0;
                if (wanted && links < 32 && text.length() < 1150) {
                    boolean turned = upTo(2) == 0;
                    text.append("link ").append(turned ? b : a).append(' ').append(turned ? a : b)
                            .append("capacity").append(space()).append(narrowest + upTo(widest)).append(" delay ")
                            .append(1 + upTo(slowest)).append(space()).append(';').append(space());
                    links++;
                }
            }
        }
        int layers = 1 + upTo(5);
        for (int v = 0; v < nodes && text.length() < 1250; v++) {
            if (upTo(3) > 0) {
                text.append("cpu ").append(v).append(" 0").append(upTo(strongest)).append(space()).append(';');
            }
        }
        text.append("native");
        rates(text, layers);
        int formats = rich ? 1 + upTo(3) : upTo(4);
        for (int f = 0; f < formats; f++) {
            text.append(space()).append("format ").append(1 + upTo(4)).append(" rates");
            rates(text, layers);
        }
        return text + space();
    }

    private void rates(StringBuilder text, int layers) {
        for (int i = 0; i < layers; i++) {
            text.append(' ').append(1 + upTo(4));
        }
        text.append(';');
    }

    private String spoil(String text) {
        StringBuilder spoilt = new StringBuilder(text);
        String signs = "; 0129azA\n\t";
        int at = upTo(text.length());
        switch (upTo(5)) {
            case 0:
                spoilt.deleteCharAt(at);
                break;
            case 1:
                spoilt.insert(at, signs.charAt(upTo(signs.length())));
                break;
            case 2:
                spoilt.setCharAt(at, signs.charAt(upTo(signs.length())));
                break;
            case 3:
                spoilt.setLength(at);
                break;
            default:
                int to = upTo(text.length());
                spoilt.insert(at, text.substring(Math.min(at, to), Math.min(Math.max(at, to), at + 12)));
        }
        return spoilt.toString();
    }

    // ---- calls

    private void randomCall() throws ReflectiveOperationException {
        String[] common = {"addReceiver", "addReceiver", "place", "setOpen", "setCapacity", "improve", "undo", "remove", "rebuild"};
        String name = upTo(3) == 0 ? common[upTo(common.length)] : calls.get(upTo(calls.size())).getName();
        if (name.equals("load") || (name.equals("undo") && upTo(2) == 0)) {
            return;
        }
        call(name, arguments(name));
        if (upTo(4) == 0) {
            compareAll();
        }
    }

    private void compareAll() {
        told.add("(all)");
        same("levels", Checks.levels(real), levels(naive));
        same("report", Checks.report(real), report(naive));
    }

    private static String levels(NaiveMulticast x) {
        StringBuilder text = new StringBuilder();
        for (int i = 0; i < x.receivers(); i++) {
            text.append(x.level(i));
        }
        return text.toString();
    }

    private static String report(NaiveMulticast x) {
        StringBuilder text = new StringBuilder();
        for (int i = 0; i < x.reportLength(); i++) {
            text.append((char) x.reportByte(i));
        }
        return text.toString();
    }

    private void same(String what, Object got, Object want) {
        if (!got.equals(want)) {
            throw new WrongAnswer(what + " answered " + got + ", due is " + want);
        }
    }

    /** Mostly a number that there is, at times one beside them. */
    private int below(int count) {
        int kind = upTo(25);
        if (kind == 0) {
            return -1;
        }
        if (kind == 1) {
            return count;
        }
        if (kind == 2) {
            return random.nextInt();
        }
        return upTo(count);
    }

    private int madeFormat(int formats) {
        return upTo(8) == 0 ? below(formats) : 1 + upTo(formats - 1);
    }

    /** Mostly one that is there. */
    private Object[] converter() {
        for (int i = 0; i < 30; i++) {
            int node = upTo(naive.nodes());
            int format = madeFormat(naive.formats());
            if (naive.isPlaced(node, format)) {
                return new Object[] {node, format};
            }
        }
        return new Object[] {below(naive.nodes()), madeFormat(naive.formats())};
    }

    private Object[] arguments(String name) {
        int nodes = naive.nodes();
        int formats = naive.formats();
        int links = naive.links();
        int receivers = naive.receivers();
        int wanted = 1 + below(naive.layers());
        switch (name) {
            case "append":
                return new Object[] {random.nextInt(), 1, -1, 0, random.nextInt()};
            case "truncate":
                return new Object[] {below(naive.tapeLength() + 1)};
            case "rate":
                return new Object[] {below(formats), wanted};
            case "linkBetween":
                return new Object[] {below(nodes), below(nodes)};
            case "capacity":
            case "isOpen":
            case "linkLoad":
            case "busiest":
            case "loss":
                return new Object[] {below(links)};
            case "addReceiver":
                return new Object[] {below(nodes), below(formats), upTo(2) == 0 ? naive.layers() : wanted};
            case "leave":
            case "raise":
            case "hasLeft":
            case "level":
            case "wanted":
            case "servedAt":
            case "bottleneck":
                return new Object[] {below(receivers)};
            case "setWanted":
                return new Object[] {below(receivers), wanted};
            case "demand":
            case "isPlaced":
            case "offer":
                return new Object[] {below(nodes), below(formats)};
            case "place":
            case "gain":
                return new Object[] {below(nodes), madeFormat(formats)};
            case "remove":
                return converter();
            case "setCapacity":
                return new Object[] {below(links), upTo(20) == 0 ? 9999 + upTo(2) : upTo(40) - (rich ? 0 : 1)};
            case "setOpen":
                return new Object[] {below(links), upTo(rich ? 4 : 2) > 0};
            case "pathNode":
                return new Object[] {below(receivers), below(6)};
            case "shared":
                return new Object[] {below(receivers), below(receivers)};
            case "isInTree":
            case "parent":
            case "delay":
            case "below":
            case "cpuLoad":
                return new Object[] {below(nodes)};
            case "total":
                return new Object[] {below(8)};
            case "graftNode":
                return new Object[] {below(nodes), below(formats), wanted, below(4)};
            case "bestPlace":
                return new Object[] {madeFormat(formats)};
            case "reportByte":
                return new Object[] {below(naive.reportLength() + 1)};
            default:
                return new Object[0];
        }
    }

    private void call(String name, Object... arguments) throws ReflectiveOperationException {
        Method mine = null;
        for (Method m : calls) {
            if (m.getName().equals(name)) {
                mine = m;
            }
        }
        if (mine == null) {
            throw new WrongAnswer("no method " + name);
        }
        made++;
        told.add(name + java.util.Arrays.toString(arguments));
        Method theirs = NaiveMulticast.class.getMethod(name, mine.getParameterTypes());
        same(name, mine.invoke(real, arguments), theirs.invoke(naive, arguments));
    }
}
