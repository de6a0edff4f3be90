import java.lang.reflect.Method;
import java.lang.reflect.Modifier;
import java.nio.file.Files;
import java.nio.file.Path;
import java.util.List;
import java.util.regex.Matcher;
import java.util.regex.Pattern;

/** What README.md tells of the class is so: its example, row by row, its table of calls and its table of findings. */
public final class ReadmeTest {
    private static final Pattern CALL = Pattern.compile("x\\.(\\w+)\\(([^)]*)\\);\\s+// (-?\\d+): .*");
    private static final Pattern FINDING = Pattern.compile("\\| (-\\d+) \\| ([A-Z]+): .* \\| (\\d) \\|");
    private static final List<String> FINDINGS = List.of("BEYOND", "FULL", "KIND", "NONE", "STATE", "MISSING", "SIZE");
    private static final Checks CHECKS = new Checks();

    public static void main(String[] args) throws Exception {
        Path root = Path.of(args.length > 0 ? args[0] : ".");
        List<String> readme = Files.readAllLines(root.resolve("README.md"));
        String document = Files.readString(root.resolve("../shared/DOC.md"));
        example(readme);
        groups(readme, document);
        findings(readme);
        CHECKS.end();
    }

    private static void example(List<String> readme) throws Exception {
        CountyJigsaw x = new CountyJigsaw();
        int rows = 0;
        for (String line : readme) {
            Matcher matcher = CALL.matcher(line);
            CHECKS.holds("is a row with its answer: " + line, matcher.matches() || !line.startsWith("x."));
            if (matcher.matches()) {
                CHECKS.due(line, answer(x, matcher.group(1), matcher.group(2)), Long.parseLong(matcher.group(3)));
                rows++;
            }
        }
        CHECKS.holds("the example has rows: " + rows, rows >= 20);
    }

    private static long answer(CountyJigsaw x, String name, String told) throws Exception {
        String[] texts = told.isBlank() ? new String[0] : told.split(", ");
        Object[] values = new Object[texts.length];
        Class<?>[] types = new Class<?>[texts.length];
        for (int i = 0; i < texts.length; i++) {
            values[i] = Integer.decode(texts[i]);
            types[i] = int.class;
        }
        return ((Number) CountyJigsaw.class.getMethod(name, types).invoke(x, values)).longValue();
    }

    /** Each group of the document is a row, with the same calls; and no call of the class is in none. */
    private static void groups(List<String> readme, String document) {
        Matcher matcher = Pattern.compile("Ahead of the calls (.*) the interface says: ---- (.*)\\.").matcher(document);
        StringBuilder calls = new StringBuilder();
        while (matcher.find()) {
            String row = "| " + matcher.group(2) + " | " + matcher.group(1) + " |";
            CHECKS.holds("README.md has the row " + row, readme.contains(row));
            calls.append(matcher.group(1));
        }
        for (Method method : CountyJigsaw.class.getDeclaredMethods()) {
            String name = "`" + method.getName() + "`";
            CHECKS.holds(name + " is in a group", !Modifier.isPublic(method.getModifiers()) || calls.indexOf(name) >= 0);
        }
    }

    private static void findings(List<String> readme) {
        int rows = 0;
        for (String line : readme) {
            Matcher matcher = FINDING.matcher(line);
            if (matcher.matches()) {
                CHECKS.due("the answer of " + line, Long.parseLong(matcher.group(1)), -1000001L - rows);
                CHECKS.due("the status of " + line, Long.parseLong(matcher.group(3)), rows);
                CHECKS.due("the name of " + line, FINDINGS.indexOf(matcher.group(2)), rows);
                rows++;
            }
        }
        CHECKS.due("findings told", rows, FINDINGS.size());
    }
}
