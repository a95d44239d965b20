import java.io.IOException;
import java.lang.reflect.Method;
import java.nio.file.DirectoryStream;
import java.nio.file.Files;
import java.nio.file.Path;
import java.util.HashMap;
import java.util.List;
import java.util.Map;
import java.util.function.IntToLongFunction;
import java.util.function.IntUnaryOperator;
import java.util.regex.Matcher;
import java.util.regex.Pattern;

/** What README.md says of calls and their answers is what the class answers. */
public final class ReadmeTest {
    private static final Pattern CALL = Pattern.compile("x\\.(\\w+)\\(([^)]*)\\);\\s*// (-?\\d+)(:.*)?");
    private static final Pattern RANGE = Pattern.compile("\\| ([a-z ]+) \\| (\\d+) \\.\\. (\\d+)( \\(.*\\))? \\|");
    private static int wrong = 0;
    private static int asked = 0;

    private static void fault(String text) {
        wrong++;
        System.out.println(text);
    }

    private static Method method(String name) {
        for (Method m : LateRows.class.getMethods()) {
            if (m.getDeclaringClass() == LateRows.class && m.getName().equals(name)) return m;
        }
        return null;
    }

    private static Object argument(String text) {
        if (text.equals("true") || text.equals("false")) return text.equals("true");
        return Integer.valueOf(text);
    }

    private static long answer(LateRows x, String name, String arguments) throws ReflectiveOperationException {
        Object[] values = arguments.isEmpty() ? new Object[0]
            : List.of(arguments.split(", ")).stream().map(ReadmeTest::argument).toArray();
        return ((Number) method(name).invoke(x, values)).longValue();
    }

    /** An example is a new object and calls, each with its answer; another line would go untested. */
    private static void checkExamples(List<String> lines) throws ReflectiveOperationException {
        boolean inside = false;
        int examples = 0;
        LateRows x = null;
        for (int i = 0; i < lines.size(); i++) {
            String line = lines.get(i);
            if (line.startsWith("```")) {
                inside = line.equals("```java");
                x = null;
            } else if (inside && line.equals("LateRows x = new LateRows();")) {
                x = new LateRows();
                examples++;
            } else if (inside) {
                Matcher call = CALL.matcher(line);
                if (x == null || !call.matches() || method(call.group(1)) == null) {
                    fault("line " + (i + 1) + " is no call with its answer: " + line);
                    continue;
                }
                long got = answer(x, call.group(1), call.group(2));
                asked++;
                if (got != Long.parseLong(call.group(3))) fault("line " + (i + 1) + " answers " + got + ": " + line);
            }
        }
        if (examples == 0 || asked == 0) fault("there is no example");
    }

    private static void checkCalls(String text) {
        for (Method m : LateRows.class.getMethods()) {
            if (m.getDeclaringClass() != LateRows.class) continue;
            Matcher row = Pattern.compile("(?m)^\\| `" + m.getName() + "\\(([^)]*)\\)` \\|").matcher(text);
            if (!row.find()) {
                fault("no line in the table for " + m.getName());
                continue;
            }
            int named = row.group(1).isEmpty() ? 0 : row.group(1).split(", ").length;
            if (named != m.getParameterCount()) fault(m.getName() + " takes " + m.getParameterCount() + " numbers");
        }
        String[] names = {"BAD", "NO", "FULL", "NONE"};
        int[] values = {LateRows.BAD, LateRows.NO, LateRows.FULL, LateRows.NONE};
        for (int i = 0; i < names.length; i++) {
            if (!text.replace('\n', ' ').contains("`" + names[i] + "` (" + values[i] + ")")) fault("not told: " + names[i]);
        }
    }

    /** The numbers that a call may be asked with, as its line in the table lists them: 0 sign, 1 operator, .. */
    private static int listed(String text, String name) {
        Matcher line = Pattern.compile("(?m)^\\| `" + name + "\\(.*$").matcher(text);
        int next = 0;
        Matcher item = Pattern.compile("(?:\\| |, )(\\d) [a-z]").matcher(line.find() ? line.group() : "");
        while (item.find()) {
            if (Integer.parseInt(item.group(1)) == next) next++;
            else fault("not in order: " + line.group());
        }
        return next;
    }

    private static int answered(IntToLongFunction call, long refusal) {
        int n = 0;
        while (n < 100 && call.applyAsLong(n) != refusal) n++;
        return n;
    }

    private static void checkLists(String text) {
        LateRows x = new LateRows();
        x.operator(0, 10, 1, 5, 0);
        x.source(0);
        x.row(0, 0, 3, 4);
        x.promise(0, 12);
        x.row(0, 0, 4, 5);
        x.pass(0, true);
        x.operator(0, 10, 1, 0, 0);
        x.source(1);
        x.promise(1, 50);
        x.row(1, 0, 3, 4);
        Map<String, Integer> due = new HashMap<>();
        due.put("result", answered(n -> x.result(0, n), LateRows.NONE));
        due.put("aside", answered(n -> x.aside(0, n), LateRows.NONE));
        due.put("of", answered(n -> x.of(1, n), LateRows.NONE));
        due.put("window", answered(n -> x.window(0, 0, 0, n), LateRows.NONE));
        due.put("passed", answered(n -> x.passed(0, n), LateRows.NONE));
        due.put("count", answered(n -> x.count(n), LateRows.BAD));
        for (String name : due.keySet()) {
            int listed = listed(text, name);
            if (listed != due.get(name)) fault(name + " lists " + listed + " of " + due.get(name));
        }
    }

    private static LateRows withSource() {
        LateRows x = new LateRows();
        x.operator(0, 10, 1, 0, 0);
        x.source(0);
        return x;
    }

    /** For each number of the table a call that has nothing else to refuse. */
    private static Map<String, IntUnaryOperator> probes() {
        Map<String, IntUnaryOperator> probes = new HashMap<>();
        probes.put("kind", n -> new LateRows().operator(n, 10, 10, 0, 0));
        probes.put("size", n -> new LateRows().operator(0, n, 1, 0, 0));
        probes.put("step", n -> new LateRows().operator(0, 1, n, 0, 0));
        probes.put("lateness", n -> new LateRows().operator(0, 10, 1, n, 0));
        probes.put("rule of an operator", n -> new LateRows().operator(0, 10, 1, 0, n));
        probes.put("t of a promise", n -> withSource().promise(0, n));
        probes.put("key", n -> withSource().row(0, n, 0, 0));
        probes.put("time of a row", n -> withSource().row(0, 0, n, 0));
        probes.put("n of bound", n -> new LateRows().bound(n, 0));
        probes.put("rule of bound", n -> new LateRows().bound(0, n));
        return probes;
    }

    private static void checkRanges(List<String> lines) {
        Map<String, IntUnaryOperator> probes = probes();
        for (String line : lines) {
            Matcher range = RANGE.matcher(line);
            if (!range.matches()) continue;
            IntUnaryOperator probe = probes.remove(range.group(1));
            if (probe == null) {
                fault("not looked at: " + line);
                continue;
            }
            int least = Integer.parseInt(range.group(2));
            int greatest = Integer.parseInt(range.group(3));
            boolean good = probe.applyAsInt(least) >= 0 && probe.applyAsInt(greatest) >= 0
                && probe.applyAsInt(least - 1) == LateRows.BAD && probe.applyAsInt(greatest + 1) == LateRows.BAD;
            if (!good) fault("not so: " + line);
        }
        if (!probes.isEmpty()) fault("no range told for " + probes.keySet());
    }

    private static void checkRoom(String text) {
        LateRows x = new LateRows();
        int operators = 0;
        while (operators < 1000 && x.operator(0, 1, 1, 1000000, 0) >= 0) operators++;
        int sources = 0;
        while (sources < 1000 && x.source(0) >= 0) sources++;
        int windows = 0;
        while (windows < 1000 && x.row(0, 0, windows, 0) == 1) windows++;
        int rows = windows;
        while (rows < 1000 && x.row(0, 0, 0, 0) == 1) rows++;
        String told = "room for " + operators + " operators, " + sources + " sources, " + rows + " rows that came, "
            + windows + " windows at once, and " + withResults(500).count(4) + " results";
        if (!text.replace('\n', ' ').contains(told)) fault("not told: " + told);
    }

    /** A late row takes back and tells anew, so that each of them makes two results. */
    private static LateRows withResults(int results) {
        LateRows x = new LateRows();
        x.operator(0, 10, 1, 1000, 0);
        x.source(0);
        x.promise(0, 10);
        for (int n = 0; n < results / 2; n++) x.row(0, 0, 0, n);
        return x;
    }

    private static void checkTests(String text) throws IOException {
        try (DirectoryStream<Path> tests = Files.newDirectoryStream(Path.of("src/test/java"), "*.java")) {
            for (Path test : tests) {
                String name = test.getFileName().toString().replace(".java", "");
                if (!text.contains("- `" + name + "`: ")) fault("not told: the test " + name);
            }
        }
    }

    public static void main(String[] args) throws Exception {
        List<String> lines = Files.readAllLines(Path.of("README.md"));
        String text = String.join("\n", lines);
        checkExamples(lines);
        checkCalls(text);
        checkLists(text);
        checkRanges(lines);
        checkRoom(text);
        checkTests(text);
        System.out.println(wrong == 0 ? asked + " calls of README.md answer as it says" : wrong + " faults");
        if (wrong != 0) System.exit(1);
    }
}
