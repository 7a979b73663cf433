import java.io.IOException;
import java.nio.file.DirectoryStream;
import java.nio.file.Files;
import java.nio.file.Path;
import java.util.ArrayList;
import java.util.HashMap;
import java.util.List;
import java.util.Map;
import java.util.Set;
import java.util.TreeSet;
import java.util.regex.Matcher;
import java.util.regex.Pattern;

/** What README.md says is so: its calls answer what stands behind them, and it leaves nothing out. */
public final class ReadmeTest {
    private static final Path README = Path.of("README.md");
    private static final Path SOURCE = Path.of("src/main/java/BellPulls.java");
    private static final Path TESTS = Path.of("src/test/java");
    private static final String FIRST = "BellPulls house = new BellPulls();";
    private static final Pattern LINE = Pattern.compile(
            "(?:int (\\w+) = )?house\\.(\\w+)\\(([^()]*)\\); +// (-?\\d+)(?:: .+)?");
    private static final Pattern LITERAL = Pattern.compile("-?\\d+|0b[01]+");
    private static final Due due = new Due();

    private final BellPulls house = new BellPulls();
    private final Map<String, Integer> named = new HashMap<>();
    private final Set<String> shown = new TreeSet<>();

    public static void main(String[] args) throws IOException {
        List<String> readme = Files.readAllLines(README);
        new ReadmeTest().examples(codeOf(readme));
        everyCallIsTold(readme);
        refusalsAreAsInTheDocument(readme);
        everyTestIsTold(String.join("\n", readme));
        due.end();
    }

    private static List<String> codeOf(List<String> readme) {
        List<String> code = new ArrayList<>();
        boolean inside = false;
        for (String line : readme) {
            if (line.startsWith("```")) {
                inside = line.equals("```java");
            } else if (inside) {
                code.add(line);
            }
        }
        return code;
    }

    private void examples(List<String> code) {
        due.that("the examples begin with a new house", !code.isEmpty() && code.get(0).equals(FIRST));
        for (String line : code.subList(1, code.size())) {
            Matcher m = LINE.matcher(line);
            due.that("a call with its answer: " + line, m.matches());
            if (m.matches()) {
                int answer = call(m.group(2), m.group(3)).on(house);
                due.is(line, answer, Integer.parseInt(m.group(4)));
                keep(m.group(1), answer);
            }
        }
        due.that("the examples show most calls: " + shown, shown.size() >= 20);
        due.that("they are calls of one object's life", code.size() <= 512);
    }

    private void keep(String name, int answer) {
        if (name != null) {
            due.that(name + " is named once", !named.containsKey(name));
            named.put(name, answer);
        }
    }

    private Call call(String name, String numbers) {
        StringBuilder text = new StringBuilder(name);
        shown.add(name);
        for (String number : numbers.isEmpty() ? new String[0] : numbers.split(", ")) {
            text.append(' ').append(valueOf(number));
        }
        return new Call(text.toString());
    }

    private int valueOf(String number) {
        if (LITERAL.matcher(number).matches()) {
            return number.startsWith("0b")
                    ? Integer.parseInt(number.substring(2), 2) : Integer.parseInt(number);
        }
        due.that(number + " is named before it is used", named.containsKey(number));
        return named.getOrDefault(number, 0);
    }

    /** The calls of the class by their names and those of their numbers, as its text has them. */
    private static List<String> callsOfTheFace() throws IOException {
        List<String> calls = new ArrayList<>();
        Matcher m = Pattern.compile("public int (\\w+)\\(([^)]*)\\)").matcher(Files.readString(SOURCE));
        while (m.find()) {
            calls.add(m.group(1) + "(" + m.group(2).replace("int ", "") + ")");
        }
        return calls;
    }

    private static Map<String, String> tableOf(List<String> readme) {
        Map<String, String> rows = new java.util.LinkedHashMap<>();
        for (String line : readme) {
            if (line.startsWith("| `")) {
                String[] cells = line.substring(1).split("\\|");
                rows.put(cells[0].replace("`", "").trim(), cells[3].trim());
            }
        }
        return rows;
    }

    private static void everyCallIsTold(List<String> readme) throws IOException {
        List<String> told = new ArrayList<>(tableOf(readme).keySet());
        List<String> face = callsOfTheFace();
        due.is("calls of the face", face.size(), 27);
        due.that("the table has the calls of the face in its order: " + told, told.equals(face));
    }

    /** Each promise of the document names its refusals; the table names the same. */
    private static void refusalsAreAsInTheDocument(List<String> readme) throws IOException {
        String document = Files.readString(Path.of("../shared/DOC.md"));
        for (Map.Entry<String, String> row : tableOf(readme).entrySet()) {
            String name = row.getKey().substring(0, row.getKey().indexOf('('));
            Matcher m = Pattern.compile("\n`int " + name + "\\([^`]*`: ([^\n]*)").matcher(document);
            due.that("the document promises " + name, m.find());
            for (String refusal : new String[] {"BAD", "NO", "FULL"}) {
                Pattern word = Pattern.compile("\\b" + refusal + "\\b");
                due.that(name + " and " + refusal,
                        word.matcher(m.group(1)).find() == word.matcher(row.getValue()).find());
            }
        }
    }

    private static void everyTestIsTold(String readme) throws IOException {
        Set<String> there = new TreeSet<>();
        try (DirectoryStream<Path> files = Files.newDirectoryStream(TESTS, "*.java")) {
            for (Path file : files) {
                there.add(file.getFileName().toString().replace(".java", ""));
            }
        }
        Set<String> told = new TreeSet<>();
        Matcher m = Pattern.compile("`(\\w+Test)`").matcher(readme);
        while (m.find()) {
            told.add(m.group(1));
        }
        due.that("README tells of " + told + ", there are " + there, told.equals(there));
        due.that("the script can be run", Files.isExecutable(Path.of(".ci/run")));
    }
}
