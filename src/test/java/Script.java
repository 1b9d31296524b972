import java.lang.reflect.Method;
import java.lang.reflect.Modifier;

/**
 * Runs of calls written as lines, such as "addReceiver 4 0 3 = 0". The answer behind "=" is a
 * number, true, false, INVALID or NOT_FOUND. Two lines are no calls: "levels" (a digit for each
 * receiver) and "report" (its line feeds written as |).
 */
final class Script {
    private final Checks checks;
    private final LayeredMulticast x;
    private final String name;

    private Script(Checks checks, String name, LayeredMulticast x) {
        this.checks = checks;
        this.name = name;
        this.x = x;
    }

    /** Runs the lines on a new object with this setup; with none, on a new object as it is. */
    static LayeredMulticast run(Checks checks, String name, String setup, String... lines) {
        LayeredMulticast x = setup.isEmpty() ? new LayeredMulticast() : Checks.loaded(setup);
        more(checks, name, x, lines);
        return x;
    }

    static void more(Checks checks, String name, LayeredMulticast x, String... lines) {
        Script script = new Script(checks, name, x);
        for (String line : lines) {
            script.line(line);
        }
    }

    private void line(String line) {
        int sign = line.indexOf('=');
        String call = line.substring(0, sign).trim();
        String want = line.substring(sign + 1).trim();
        checks.due(name + ": " + call, answer(call), number(want));
    }

    private static String number(String want) {
        switch (want) {
            case "INVALID":
                return "-1";
            case "NOT_FOUND":
                return "-2";
            default:
                return want;
        }
    }

    private String answer(String call) {
        String[] parts = call.split(" +");
        switch (parts[0]) {
            case "levels":
                return Checks.levels(x);
            case "report":
                return Checks.report(x).replace('\n', '|');
            default:
                return String.valueOf(invoke(parts));
        }
    }

    private Object invoke(String[] parts) {
        for (Method m : LayeredMulticast.class.getDeclaredMethods()) {
            if (m.getName().equals(parts[0]) && Modifier.isPublic(m.getModifiers())) {
                Class<?>[] kinds = m.getParameterTypes();
                Object[] arguments = new Object[kinds.length];
                for (int i = 0; i < kinds.length; i++) {
                    String text = parts[i + 1];
                    arguments[i] = kinds[i] == boolean.class ? (Object) Boolean.valueOf(text) : Integer.valueOf(text);
                }
                try {
                    return m.invoke(x, arguments);
                } catch (ReflectiveOperationException thrown) {
                    return "thrown: " + thrown.getCause();
                }
            }
        }
        return "no such method";
    }
}
