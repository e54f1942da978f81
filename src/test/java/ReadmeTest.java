import java.lang.reflect.InvocationTargetException;
import java.lang.reflect.Method;
import java.nio.file.Files;
import java.nio.file.Path;
import java.util.ArrayList;
import java.util.List;
import java.util.TreeSet;
import java.util.regex.Matcher;
import java.util.regex.Pattern;
import java.util.stream.Stream;
import javax.tools.ToolProvider;

/** What README.md says of the class and of its tests: promises 1 to 37, as far as it tells them. */
public final class ReadmeTest {
    private static final Path README = Path.of("README.md");
    private static final Path DOCUMENT = Path.of("../shared/DOC.md");
    private static final Path TESTS = Path.of("src/test/java");
    /** Without halls, and with a print that is not empty and can't be made to make sense. */
    private static final String HOPELESS = "shot a sort 1 long 1;shot b sort 1 long 1;needs a b;";

    /** A row of the table of calls. */
    private record Row(int promise, String call, String otherwise) {
        String name() {
            return call.substring(0, call.indexOf('('));
        }
    }

    private ReadmeTest() {
    }

    public static void main(String[] args) throws Exception {
        String text = Files.readString(README);
        example(text);
        List<Row> rows = rows(text);
        callsOfTheDocument(rows);
        whatCannotBe(rows);
        limits();
        laws();
        testsAreListed(text);
        Due.end();
    }

    // ---- the example

    private static void example(String text) throws Exception {
        Matcher blocks = Pattern.compile("(?s)```java\n(.*?)```").matcher(text);
        Due.due("a helper", blocks.find(), true);
        String helper = blocks.group(1);
        Due.due("an example", blocks.find(), true);
        String example = blocks.group(1);
        Due.due("no third block", blocks.find(), false);
        Due.due("the example tells answers", answersIn(example) >= 15, true);
        run("final class ReadmeExample {\n" + helper + "\nstatic void run() {\n" + judging(example) + "}\n}\n");
    }

    private static long answersIn(String example) {
        return example.lines().filter(line -> line.startsWith("x.")).count();
    }

    /** The example's lines, each call held against the answer that stands behind it. */
    private static String judging(String example) {
        Pattern told = Pattern.compile("(x\\.(\\w+)\\(.*?\\)); +// (-?\\d+|true|false|throws NoSuchElementException)\\b.*");
        StringBuilder code = new StringBuilder();
        for (String line : example.split("\n")) {
            Matcher m = told.matcher(line);
            if (!m.matches()) {
                Due.due("an answer stands behind " + line, line.startsWith("x."), false);
                code.append(line).append('\n');
            } else if (m.group(3).startsWith("throws")) {
                code.append("{ boolean isThrown = false; try { ").append(m.group(1))
                    .append("; } catch (java.util.NoSuchElementException e) { isThrown = true; } Due.due(\"README: ")
                    .append(m.group(1)).append(" throws\", isThrown, true); }\n");
            } else {
                code.append("Due.due(\"README: ").append(m.group(1)).append("\", ").append(m.group(1)).append(", ")
                    .append(m.group(3)).append(");\n");
            }
        }
        return code.toString();
    }

    private static void run(String source) throws Exception {
        Path dir = Files.createTempDirectory("readme");
        Path file = dir.resolve("ReadmeExample.java");
        Files.writeString(file, source);
        int fault = ToolProvider.getSystemJavaCompiler().run(null, null, null, "-cp",
            System.getProperty("java.class.path"), "-d", dir.toString(), file.toString());
        Due.due("the example is compiled", fault, 0);
        if (fault == 0) {
            runCompiled(dir);
        }
        try (Stream<Path> made = Files.list(dir)) {
            for (Path each : made.toList()) {
                Files.delete(each);
            }
        }
        Files.delete(dir);
    }

    /** Defined beside this class, not by a loader of its own: its answers are to be counted in this Due. */
    private static void runCompiled(Path dir) throws Exception {
        byte[] code = Files.readAllBytes(dir.resolve("ReadmeExample.class"));
        Class<?> made = java.lang.invoke.MethodHandles.lookup().defineClass(code);
        Method run = made.getDeclaredMethod("run");
        run.setAccessible(true);
        run.invoke(null);
    }

    // ---- the table of calls

    private static List<Row> rows(String text) {
        List<Row> rows = new ArrayList<>();
        Matcher m = Pattern.compile("(?m)^\\| (\\d+) \\| `([^`]+)` \\| .* \\|( [^|]*)\\|$").matcher(text);
        while (m.find()) {
            rows.add(new Row(Integer.parseInt(m.group(1)), m.group(2), m.group(3).trim()));
        }
        return rows;
    }

    /** Each promise has its row, with the document's names. */
    private static void callsOfTheDocument(List<Row> rows) throws Exception {
        Pattern told = Pattern.compile("(?m)^## Promise (\\d+): .*\n\n`(?:\\w+ )?(\\w+)\\(([^)]*)\\)");
        Matcher m = told.matcher(Files.readString(DOCUMENT));
        int promises = 0;
        while (m.find()) {
            String call = m.group(2) + "(" + m.group(3).replaceAll("\\w+ (\\w+)", "$1") + ")";
            boolean isTold = promises < rows.size() && rows.get(promises).call.equals(call)
                && rows.get(promises).promise == Integer.parseInt(m.group(1));
            Due.due("README has a row of promise " + m.group(1) + ", " + call, isTold, true);
            promises++;
        }
        Due.due("promises of the document", promises, 37);
        Due.due("rows of README", rows.size(), promises);
    }

    /** What stands in the last column is what comes if the numbers are none of those meant. */
    private static void whatCannotBe(List<Row> rows) throws Exception {
        for (Row row : rows) {
            for (Method m : CountyPrint.class.getDeclaredMethods()) {
                if (m.getName().equals(row.name()) && !row.otherwise.isEmpty()) {
                    String due = row.otherwise.equals("NONE") ? "-1" : row.otherwise;
                    String got = answerToNonsense(m);
                    Due.due("README: " + row.call + " else " + due + ", it is " + got, got.equals(due), true);
                }
            }
        }
    }

    private static String answerToNonsense(Method m) throws Exception {
        Class<?>[] types = m.getParameterTypes();
        Object[] values = new Object[types.length];
        for (int i = 0; i < types.length; i++) {
            values[i] = types[i] == boolean.class ? (Object) false : (Object) Integer.MIN_VALUE;
        }
        try {
            return m.invoke(Due.of(HOPELESS), values).toString();
        } catch (InvocationTargetException e) {
            return e.getCause() instanceof java.util.NoSuchElementException ? "throws" : e.getCause().toString();
        }
    }

    // ---- limits and laws

    private static void limits() {
        CountyPrint x = new CountyPrint();
        Due.tell(x, ";".repeat(1100));
        Due.due("1,000 signs", x.count(10), 1000);
        Due.due("these make no county", x.county(), 1);
        Due.due("10 shots", Due.county(x, Edges.shots(10) + Edges.halls(6, "plain hates 1")), 0);
        Due.due("no more", Due.county(x, Edges.shots(11)) % 16, 5);
        Due.due("no more than 6 halls", Due.county(x, Edges.halls(7, "plain hates 1")) % 16, 5);
        Due.due("40 lines", Due.round(x, "turn;".repeat(40)), 0);
        Due.due("no more", Due.round(x, "turn;".repeat(41)) % 16, 5);
        for (int i = 0; i < 20; i++) {
            x.turn();
            x.see(0, true);
        }
        Due.due("16 deeds", x.count(9), 16);
        Due.due("8 sightings", x.count(8), 8);
        Due.due("mark 0", x.mark(0, false), true);
        Due.due("mark 3", x.mark(3, false), true);
        Due.due("mark 4", x.mark(4, false), false);
    }

    private static void laws() {
        CountyPrint x = new CountyPrint();
        Due.due("four deep", Due.county(x, "hall h plain hates ((not (1)));"), 0);
        Due.due("five deep", Due.county(x, "hall h plain hates ((not ((1))));"), 5 + 16 * 27);
        Due.due("one < alone", Due.county(x, "hall h plain hates 1<2<3;"), 1 + 16 * 22);
        Due.due("names", Due.county(x, "shot kind sort 1 long 1;hall ahead plain hates kind;"), 0);
        Due.due("alike", Due.county(x, "shot kind sort 1 long 1;hall kind plain hates kind;"), 3 + 16 * 29);
        Due.due("and, or from the left", takenOut(x, "plain hates 1 or 1 and 0"), 0);
        Due.due("* binds more than +", takenOut(x, "plain hates 1 + 1 * 0 = 1"), 7);
        Due.due("+ binds more than <", takenOut(x, "plain hates 0 < 1 - 1"), 0);
        Due.due("plain", takenOut(x, "plain hates kind < 3"), 6);
        Due.due("keen", takenOut(x, "keen hates kind < 3"), 2);
        Due.due("chapel", takenOut(x, "chapel hates kind = 1"), 6);
        Due.due("miner", takenOut(x, "miner hates kind < 3"), 2);
        Due.due("ahead", takenOut(x, "plain hates ahead = 10"), 1);
    }

    private static int takenOut(CountyPrint x, String hall) {
        String shots = "shot a sort 3 long 1;shot b sort 1 long 1;shot c sort 2 long 1;";
        Due.due("county of " + hall, Due.county(x, shots + "hall h " + hall + ";"), 0);
        return x.hall(0, 3);
    }

    // ---- the tests

    private static void testsAreListed(String text) throws Exception {
        TreeSet<String> listed = new TreeSet<>();
        Matcher m = Pattern.compile("(?m)^\\| `(\\w+)` \\|").matcher(text);
        while (m.find()) {
            listed.add(m.group(1));
        }
        TreeSet<String> found = new TreeSet<>();
        try (Stream<Path> files = Files.list(TESTS)) {
            files.map(file -> file.getFileName().toString()).filter(name -> name.endsWith("Test.java"))
                .forEach(name -> found.add(name.replace(".java", "")));
        }
        Due.due("README lists " + listed + ", there are " + found, listed.equals(found), true);
        Due.due(".ci/run can be run", Files.isExecutable(Path.of(".ci/run")), true);
    }
}
