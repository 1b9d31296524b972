import java.lang.reflect.Method;
import java.lang.reflect.Modifier;
import java.util.HashMap;
import java.util.Map;

/**
 * Runs of calls written as lines, such as "addReceiver 4 0 3 = 0". The answer behind "=" is a
 * number, true, false, INVALID or NOT_FOUND. Some lines stand for several calls: "levels" (a digit
 * for each receiver), "report" (its line feeds written as |), "feed TEXT" (which puts a text on the
 * tape and answers the tape's length) and "read TEXT" (which loads it, too).
 */
final class Script {
    private static final Map<String, Method> METHODS = new HashMap<>();

    static {
        for (Method m : LayeredMulticast.class.getDeclaredMethods()) {
            if (Modifier.isPublic(m.getModifiers())) {
                METHODS.put(m.getName(), m);
            }
        }
    }

    final LayeredMulticast x;
    /** How many calls the object has had by this script. */
    int calls;

    Script(LayeredMulticast x) {
        this.x = x;
    }

    /** Runs the lines on a new object with this setup; with none, on a new object as it is. */
    static LayeredMulticast run(Checks checks, String name, String setup, String... lines) {
        LayeredMulticast x = setup.isEmpty() ? new LayeredMulticast() : Checks.loaded(setup);
        more(checks, name, x, lines);
        return x;
    }

    static void more(Checks checks, String name, LayeredMulticast x, String... lines) {
        new Script(x).check(checks, name, lines);
    }

    void check(Checks checks, String name, String... lines) {
        for (String line : lines) {
            checks.due(name + ": " + call(line), answer(call(line)), due(line));
        }
    }

    static String call(String line) {
        return line.substring(0, line.indexOf('=')).trim();
    }

    static String due(String line) {
        String want = line.substring(line.indexOf('=') + 1).trim();
        switch (want) {
            case "INVALID":
                return "-1";
            case "NOT_FOUND":
                return "-2";
            default:
                return want;
        }
    }

    String answer(String call) {
        int space = call.indexOf(' ');
        String name = space < 0 ? call : call.substring(0, space);
        switch (name) {
            case "levels":
                return levels();
            case "report":
                return report();
            case "feed":
                return String.valueOf(feed(call.substring(space + 1)));
            case "read":
                feed(call.substring(space + 1));
                return invoke(new String[] {"load"});
            default:
                return invoke(call.split(" +"));
        }
    }

    private String levels() {
        String text = Checks.levels(x);
        calls += 2 * text.length() + 1;
        return text;
    }

    private String report() {
        String text = Checks.report(x);
        calls += 2 * text.length() + 1;
        return text.replace('\n', '|');
    }

    int feed(String text) {
        Checks.feed(x, text);
        calls += (text.length() + 19) / 20 + 2;
        return x.tapeLength();
    }

    private String invoke(String[] parts) {
        Method m = METHODS.get(parts[0]);
        if (m == null) {
            return "no such method";
        }
        Class<?>[] kinds = m.getParameterTypes();
        if (kinds.length != parts.length - 1) {
            return "wrong number of arguments";
        }
        Object[] arguments = new Object[kinds.length];
        for (int i = 0; i < kinds.length; i++) {
            String text = parts[i + 1];
            arguments[i] = kinds[i] == boolean.class ? (Object) Boolean.valueOf(text) : Integer.valueOf(text);
        }
        calls++;
        try {
            return String.valueOf(m.invoke(x, arguments));
        } catch (ReflectiveOperationException thrown) {
            return "thrown: " + thrown.getCause();
        }
    }
}
