import java.io.IOException;
import java.lang.reflect.Constructor;
import java.lang.reflect.Field;
import java.lang.reflect.Method;
import java.lang.reflect.Modifier;
import java.nio.file.Files;
import java.nio.file.Path;
import java.util.List;
import java.util.Set;
import java.util.TreeSet;
import java.util.regex.Matcher;
import java.util.regex.Pattern;

/** The document's face, those rules of LANGUAGE.md that can be read off the text, and the room. */
public final class RulesTest {
    private static final Path SOURCE = Path.of("src/main/java/LayeredMulticast.java");
    private static final Path DOCUMENT = Path.of("../shared/DOC.md");
    private static final Checks CHECKS = new Checks("RulesTest");

    public static void main(String[] args) throws IOException {
        face();
        names();
        words();
        made();
        lengths();
        CHECKS.end();
    }

    private static Set<String> documentFace() throws IOException {
        Set<String> found = new TreeSet<>();
        Matcher m = Pattern.compile("^    public (int|boolean) (\\w+)\\((.*)\\);$", Pattern.MULTILINE)
                .matcher(Files.readString(DOCUMENT));
        while (m.find()) {
            found.add(m.group(1) + " " + m.group(2) + "(" + m.group(3).replaceAll("(int|boolean) \\w+", "$1") + ")");
        }
        return found;
    }

    private static void face() throws IOException {
        Set<String> found = new TreeSet<>();
        for (Method m : LayeredMulticast.class.getDeclaredMethods()) {
            if (!Modifier.isPrivate(m.getModifiers())) {
                StringBuilder text = new StringBuilder(m.getReturnType() + " " + m.getName() + "(");
                for (Class<?> kind : m.getParameterTypes()) {
                    text.append(text.charAt(text.length() - 1) == '(' ? "" : ", ").append(kind);
                }
                found.add(text + ")");
                CHECKS.due("public " + m, Modifier.isPublic(m.getModifiers()) && !Modifier.isStatic(m.getModifiers()), true);
            }
        }
        CHECKS.due("the face", found.toString(), documentFace().toString());
        CHECKS.due("methods of the face", found.size(), 51);
        Set<String> constants = new TreeSet<>();
        for (Field f : LayeredMulticast.class.getDeclaredFields()) {
            if (!Modifier.isPrivate(f.getModifiers())) {
                constants.add(f.toString());
            }
        }
        CHECKS.due("the constants", constants.toString(), "[public static final int LayeredMulticast.INVALID,"
                + " public static final int LayeredMulticast.NOT_FOUND]");
        CHECKS.due("INVALID", LayeredMulticast.INVALID, -1);
        CHECKS.due("NOT_FOUND", LayeredMulticast.NOT_FOUND, -2);
        Constructor<?>[] makers = LayeredMulticast.class.getDeclaredConstructors();
        CHECKS.due("constructors", makers.length, 1);
        CHECKS.due("the constructor", makers[0].toString(), "public LayeredMulticast()");
        CHECKS.due("final", Modifier.isFinal(LayeredMulticast.class.getModifiers()), true);
    }

    private static void names() {
        Set<String> faceNames = new TreeSet<>();
        for (Method m : LayeredMulticast.class.getDeclaredMethods()) {
            if (Modifier.isPublic(m.getModifiers())) {
                faceNames.add(m.getName());
            }
        }
        CHECKS.due("classes inside", LayeredMulticast.class.getDeclaredClasses().length <= 11, true);
        for (Class<?> c : LayeredMulticast.class.getDeclaredClasses()) {
            CHECKS.due("static " + c, Modifier.isStatic(c.getModifiers()), true);
            int fields = 0;
            for (Field f : c.getDeclaredFields()) {
                fields += Modifier.isStatic(f.getModifiers()) ? 0 : 1;
            }
            CHECKS.due("at most twenty fields in " + c, fields <= 20, true);
            for (Method m : c.getDeclaredMethods()) {
                CHECKS.due("no name of the face: " + m, faceNames.contains(m.getName()), false);
            }
        }
    }

    /** The source without comments, strings and characters. */
    private static String code() throws IOException {
        return Files.readString(SOURCE)
                .replaceAll("(?s)/\\*.*?\\*/", "")
                .replaceAll("//.*", "")
                .replaceAll("\"[^\"]*\"", "TEXT")
                .replaceAll("'\\\\?.'", "SIGN");
    }

    private static void words() throws IOException {
        String code = code();
        String[] refused = {"throw", "try", "catch", "synchronized", "assert", "instanceof", "throws", "package", "var",
            "double", "float", "Object", "Thread", "\\w+Exact", "while", "protected", "yield"};
        for (String word : refused) {
            CHECKS.due("no " + word, Pattern.compile("\\b" + word + "\\b").matcher(code).find(), false);
        }
        CHECKS.due("no static block", code.contains("static {"), false);
        CHECKS.due("no lambda", code.contains("->"), false);
        CHECKS.due("no method reference", code.contains("::"), false);
        Matcher imports = Pattern.compile("import (.*);").matcher(code);
        while (imports.find()) {
            CHECKS.due("import", imports.group(1), "java.util.Arrays");
        }
        Matcher library = Pattern.compile("\\b(System|Arrays|Math|Integer)\\.(\\w+)").matcher(code);
        List<String> allowed = List.of("System.arraycopy", "Arrays.fill", "Math.min", "Math.max", "Integer.bitCount");
        while (library.find()) {
            CHECKS.due("library: " + library.group(), allowed.contains(library.group()), true);
        }
        CHECKS.due("signs up to 127 alone", Files.readString(SOURCE).chars().allMatch(c -> c < 128), true);
    }

    /** Objects are made with their owner and never by a call, so that a run needs no more room. */
    private static void made() throws IOException {
        for (String line : code().split("\n")) {
            if (line.contains("new ")) {
                boolean field = line.matches("\\s+(private )?final [\\w\\[\\]]+ \\w+ = new .*");
                boolean slot = line.trim().equals("states[i] = new State();");
                CHECKS.due("made in a call: " + line.trim(), field || slot, true);
            }
        }
    }

    private static void lengths() throws IOException {
        int begin = 0;
        int number = 0;
        for (String line : Files.readAllLines(SOURCE)) {
            number++;
            if (line.matches("( {4}| {8})\\S.*\\) \\{")) {
                begin = number;
                CHECKS.due("at most seven parameters: " + line, line.split(",").length <= 7, true);
            }
            if (line.matches(" {4}\\}| {8}\\}")) {
                CHECKS.due("a method of at most sixty lines ends at " + number, begin == 0 || number - begin <= 60, true);
                begin = 0;
            }
        }
    }
}
