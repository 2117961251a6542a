import java.io.ByteArrayOutputStream;
import java.io.IOException;
import java.io.PrintStream;
import java.lang.reflect.Field;
import java.lang.reflect.Method;
import java.lang.reflect.Modifier;
import java.nio.file.Files;
import java.nio.file.Path;
import java.util.ArrayList;
import java.util.LinkedHashMap;
import java.util.List;
import java.util.Map;
import java.util.TreeMap;
import java.util.TreeSet;
import java.util.regex.Matcher;
import java.util.regex.Pattern;
import java.util.stream.Stream;

/** README.md agrees with the document and with the project: its example, its tables and its numbers. */
public final class ReadmeTest {
    private static final Path README = Path.of("README.md");
    private static final Path DOCUMENT = Path.of("../shared/DOC.md");
    private static final Path TESTS = Path.of("src/test/java");
    private static final Pattern RANGE = Pattern.compile("\\((\\d+) to (\\d+)\\)");

    private final List<String> lines = Files.readAllLines(README);

    private ReadmeTest() throws IOException {
    }

    public static void main(String[] args) throws IOException, IllegalAccessException {
        ReadmeTest test = new ReadmeTest();
        test.theExample();
        test.theStatements();
        test.theCodes();
        test.theCalls();
        test.theTests();
        test.theClasses();
        Checks.end("ReadmeTest");
    }

    private void theExample() throws IOException {
        String program = Files.readString(TESTS.resolve("Example.java")).trim();
        Checks.dueText("the program of the example", block("```java"), program);
        PrintStream usual = System.out;
        ByteArrayOutputStream printed = new ByteArrayOutputStream();
        System.setOut(new PrintStream(printed, true));
        Example.main(new String[0]);
        System.setOut(usual);
        Checks.dueText("what the example prints", block("```"), printed.toString().replace("\r", "").trim());
    }

    /** A block whose first line is this one; an end of a block looks like the start of one without a name. */
    private String block(String start) {
        List<String> found = new ArrayList<>();
        String open = "";
        for (String line : lines) {
            boolean mark = line.startsWith("```");
            if (mark) {
                open = open.isEmpty() ? line : "";
            } else if (open.equals(start)) {
                found.add(line);
            }
        }
        return String.join("\n", found).trim();
    }

    /** Each row of the table with this head: its first column without backquotes, and the others. */
    private Map<String, String[]> table(String head) {
        Map<String, String[]> rows = new LinkedHashMap<>();
        int at = lines.indexOf(head);
        Checks.holds("README.md has the table " + head, at >= 0);
        for (int k = at + 2; at >= 0 && k < lines.size() && lines.get(k).startsWith("|"); k++) {
            String[] cells = lines.get(k).substring(1).trim().split(" *\\| *");
            Checks.holds("once: " + cells[0], rows.put(cells[0].replace("`", "").trim(), cells) == null);
        }
        return rows;
    }

    private void theStatements() {
        Map<String, String[]> rows = table("| statement | numbers | without it |");
        Checks.dueText("statements", new TreeSet<>(rows.keySet()).toString(),
            "[band, contract, demand, ladder, minimum, miss, spot, waivers, window]");
        for (String word : rows.keySet()) {
            List<int[]> ranges = new ArrayList<>();
            Matcher range = RANGE.matcher(rows.get(word)[1]);
            while (range.find()) {
                ranges.add(new int[] {Integer.parseInt(range.group(1)), Integer.parseInt(range.group(2))});
            }
            for (int k = 0; k < ranges.size(); k++) {
                numberOf(word, ranges, k);
            }
        }
        Setups.accepted("contract 4 5 6 7;demand reserved+season*10-period/2;");
    }

    private static void numberOf(String word, List<int[]> ranges, int tried) {
        StringBuilder before = new StringBuilder(word.equals("contract") ? word : Setups.HEAD + word);
        StringBuilder after = new StringBuilder();
        for (int k = 0; k < ranges.size(); k++) {
            if (k != tried) {
                (k < tried ? before : after).append(' ').append(ranges.get(k)[0]);
            }
        }
        Setups.range(before + " ", ranges.get(tried)[0], ranges.get(tried)[1], after + ";");
    }

    private void theCodes() throws IOException, IllegalAccessException {
        Map<String, String[]> rows = table("| code | value | what it says |");
        String document = Files.readString(DOCUMENT);
        Checks.due("codes", rows.size(), 4);
        for (Field field : SupplyContract.class.getFields()) {
            String[] row = rows.get(field.getName());
            Checks.holds("the code " + field.getName(), row != null);
            if (row != null) {
                Checks.dueText("the value of " + field.getName(), row[1], String.valueOf(field.getInt(null)));
                Checks.holds("the words for " + field.getName(), document.contains(
                    "- `" + field.getName() + " = " + row[1] + "`: Error code of load: " + row[2] + "."));
            }
        }
    }

    private void theCalls() throws IOException {
        Map<String, String> told = new TreeMap<>();
        for (Map.Entry<String, String[]> row : table("| call | promise | what it does or answers |").entrySet()) {
            told.put(row.getKey(), row.getValue()[1]);
        }
        Map<String, String> due = new TreeMap<>();
        Matcher promise = Pattern.compile("(?m)^## Promise (\\d+): (\\w+)$").matcher(Files.readString(DOCUMENT));
        while (promise.find()) {
            due.put(promise.group(2), promise.group(1));
        }
        Checks.dueText("calls and their promises", told.toString(), due.toString());
        TreeSet<String> open = new TreeSet<>();
        for (Method method : SupplyContract.class.getDeclaredMethods()) {
            if (Modifier.isPublic(method.getModifiers())) {
                open.add(method.getName());
            }
        }
        Checks.dueText("calls of the class", told.keySet().toString(), open.toString());
    }

    private void theTests() throws IOException {
        TreeSet<String> tests = new TreeSet<>();
        TreeSet<String> groups = new TreeSet<>();
        try (Stream<Path> files = Files.list(TESTS)) {
            for (Path file : files.toList()) {
                String name = file.getFileName().toString().replace(".java", "");
                if (name.endsWith("Test")) {
                    tests.add(name);
                } else if (Files.readString(file).contains("    @Sentence(")) {
                    groups.add(name);
                }
            }
        }
        Checks.dueText("tests", new TreeSet<>(table("| test | what it looks at |").keySet()).toString(),
            tests.toString());
        Checks.dueText("classes of sentences", new TreeSet<>(table("| class | sections |").keySet()).toString(),
            groups.toString());
    }

    private void theClasses() {
        TreeSet<String> inside = new TreeSet<>();
        for (Class<?> type : SupplyContract.class.getDeclaredClasses()) {
            inside.add(type.getSimpleName());
        }
        Checks.dueText("classes inside", new TreeSet<>(table("| class inside | what it holds |").keySet()).toString(),
            inside.toString());
    }
}
