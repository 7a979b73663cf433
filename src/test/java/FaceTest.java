import java.io.IOException;
import java.lang.reflect.Method;
import java.lang.reflect.Modifier;
import java.nio.file.Files;
import java.nio.file.Path;
import java.util.Set;
import java.util.TreeSet;
import java.util.regex.Matcher;
import java.util.regex.Pattern;

/** The face is the document's and no more, and the text keeps to LANGUAGE.md where that can be seen. */
public final class FaceTest {
    private static final Path SOURCE = Path.of("src/main/java/BellPulls.java");
    private static final String[] FACE = {
        "crank 2", "bell 3", "heat 1", "pull 5", "cross 2", "uncross 0", "force 1", "would 2",
        "means 3", "servant 3", "ring 1", "ticks 1", "takeBack 1", "flags 1", "about 2",
        "servantTold 2", "way 2", "swings 1", "share 1", "send 0", "test 3", "noTests 0",
        "fault 1", "nextTest 0", "frame 3", "wires 1", "count 1",
    };
    private static final String[] LEFT_OUT = {
        "import", "package", "try", "catch", "finally", "throw", "throws", "synchronized", "assert",
        "float", "double", "instanceof", "volatile", "native", "protected", "var", "Object",
    };
    private static final Set<String> LIBRARY =
            Set.of("Math.max", "Math.min", "Math.abs", "Integer.bitCount");
    /** Rows of an object are made with it, and the face makes its parts; nothing else is made. */
    private static final Pattern MADE = Pattern.compile(
            " +(private )?final int\\[\\] \\w+ = new int\\[.+\\];| {8}\\w+ = new \\w+\\([\\w, ]*\\);");
    private static final Pattern METHOD = Pattern.compile(
            "( {4}| {8})(?!if|for|while|switch|return)\\w[\\w \\[\\]]*\\([^;]*");
    private static final int LONGEST = 60;
    private static final Due due = new Due();

    public static void main(String[] args) throws IOException {
        face();
        faceAsTheDocumentWritesIt();
        String code = Files.readString(SOURCE)
                .replaceAll("(?s)/\\*.*?\\*/", "").replaceAll("//[^\n]*", "");
        words(code);
        library(code);
        madeWithTheObject(code);
        shortMethods(code);
        names();
        due.end();
    }

    private static void face() {
        due.is("BAD", BellPulls.BAD, -1);
        due.is("NO", BellPulls.NO, -2);
        due.is("FULL", BellPulls.FULL, -3);
        due.is("NONE", BellPulls.NONE, -4);
        int modifiers = BellPulls.class.getModifiers();
        due.that("public and final", Modifier.isPublic(modifiers) && Modifier.isFinal(modifiers));
        due.is("constructors", BellPulls.class.getDeclaredConstructors().length, 1);
        due.is("public constructors", BellPulls.class.getConstructors().length, 1);
        due.is("public fields", BellPulls.class.getFields().length, 4);
        Set<String> found = new TreeSet<>();
        for (Method m : BellPulls.class.getDeclaredMethods()) {
            if (Modifier.isPublic(m.getModifiers())) {
                found.add(m.getName() + " " + m.getParameterCount());
                due.that(m.getName() + " answers an int", m.getReturnType() == int.class);
                for (Class<?> type : m.getParameterTypes()) {
                    due.that(m.getName() + " takes ints", type == int.class);
                }
            } else {
                due.that(m.getName() + " is private", Modifier.isPrivate(m.getModifiers()));
            }
        }
        due.that("the document's methods", found.equals(new TreeSet<>(Set.of(FACE))));
        for (java.lang.reflect.Field f : BellPulls.class.getDeclaredFields()) {
            boolean open = Modifier.isPublic(f.getModifiers()) && Modifier.isStatic(f.getModifiers());
            due.that(f.getName() + " is private", open || Modifier.isPrivate(f.getModifiers()));
            due.that(f.getName() + " is final", Modifier.isFinal(f.getModifiers()));
        }
    }

    private static void faceAsTheDocumentWritesIt() throws IOException {
        String source = Files.readString(SOURCE);
        int lines = 0;
        for (String line : Files.readAllLines(Path.of("../shared/DOC.md"))) {
            if (line.startsWith("    public ")) {
                lines++;
                String written = line.contains("(") ? line.replace(";", " {") : line;
                due.that("the class has " + line.trim(), source.contains("\n" + written + "\n"));
            }
        }
        due.is("constants, a constructor and methods", lines, 1 + 1 + FACE.length);
    }

    private static void madeWithTheObject(String code) {
        for (String line : code.split("\n")) {
            if (Pattern.compile("\\bnew\\b").matcher(line).find()) {
                due.that("made with the object: " + line.trim(), MADE.matcher(line).matches());
            }
        }
    }

    private static void shortMethods(String code) {
        String[] lines = code.split("\n");
        int methods = 0;
        for (int i = 0; i < lines.length; i++) {
            Matcher head = METHOD.matcher(lines[i]);
            if (!head.matches() || lines[i].endsWith(";")) {
                continue;
            }
            int end = i;
            while (end < lines.length - 1 && !lines[end].equals(head.group(1) + "}")) {
                end++;
            }
            methods++;
            due.that(lines[i].trim() + " is short", end - i < LONGEST);
        }
        due.that("methods are found: " + methods, methods > 80);
    }

    private static void names() {
        Set<String> ofFace = new TreeSet<>();
        for (String line : FACE) {
            ofFace.add(line.substring(0, line.indexOf(' ')));
        }
        Class<?>[] inside = BellPulls.class.getDeclaredClasses();
        due.that("some twelve classes at most", inside.length < 12);
        for (Class<?> c : inside) {
            due.that(c.getName() + " is static", Modifier.isStatic(c.getModifiers()));
            due.that(c.getName() + " is not public", !Modifier.isPublic(c.getModifiers()));
            due.that(c.getName() + " has few fields", c.getDeclaredFields().length <= 20);
            for (Method m : c.getDeclaredMethods()) {
                due.that(m.getName() + " is no name of the face", !ofFace.contains(m.getName()));
                due.that(m.getName() + " takes seven at most", m.getParameterCount() <= 7);
            }
            for (java.lang.reflect.Field f : c.getDeclaredFields()) {
                int modifiers = f.getModifiers();
                due.that(f.getName() + " is constant if static",
                        !Modifier.isStatic(modifiers) || Modifier.isFinal(modifiers));
            }
        }
    }

    private static void words(String code) {
        for (String word : LEFT_OUT) {
            due.that("no " + word, !Pattern.compile("\\b" + word + "\\b").matcher(code).find());
        }
        due.that("no lambda", !code.contains("->"));
        due.that("no method reference", !code.contains("::"));
        due.that("no static block", !Pattern.compile("static\\s*\\{").matcher(code).find());
        due.that("plain signs alone", code.chars().allMatch(c -> c == '\n' || c >= 32 && c < 127));
    }

    private static void library(String code) {
        Matcher used = Pattern.compile("\\b(Math|Integer|Long|System|Arrays|String)\\.\\w+").matcher(code);
        while (used.find()) {
            due.that(used.group() + " is in the library", LIBRARY.contains(used.group()));
        }
    }
}
