import java.io.IOException;
import java.io.StringWriter;
import java.lang.reflect.Field;
import java.lang.reflect.Modifier;
import java.net.URL;
import java.net.URLClassLoader;
import java.nio.file.Files;
import java.nio.file.Path;
import java.util.ArrayList;
import java.util.List;
import java.util.Map;
import java.util.Set;
import java.util.TreeMap;
import java.util.TreeSet;
import java.util.regex.Matcher;
import java.util.regex.Pattern;
import java.util.stream.Collectors;
import java.util.stream.Stream;
import javax.tools.ToolProvider;

/** That README.md agrees with the class: its example, its tables, and the tests that it names. */
public final class ReadmeTest {
    private static final Path TESTS = Path.of("src/test/java");

    private static String readme;

    public static void main(String[] args) throws IOException, ReflectiveOperationException {
        readme = Files.readString(Path.of("README.md"));
        example();
        constants();
        methods();
        refusals();
        orderOfRefusals();
        testNames();
        Check.end("ReadmeTest");
    }

    private static List<List<String>> all(String pattern, String text) {
        List<List<String>> found = new ArrayList<>();
        Matcher matcher = Pattern.compile(pattern, Pattern.MULTILINE).matcher(text);
        while (matcher.find()) {
            List<String> groups = new ArrayList<>();
            for (int g = 1; g <= matcher.groupCount(); g++) {
                groups.add(matcher.group(g));
            }
            found.add(groups);
        }
        return found;
    }

    /** Compiles and runs the example; a comment that begins with a number tells the line's answer. */
    private static void example() throws IOException, ReflectiveOperationException {
        int from = readme.indexOf("```java\n") + "```java\n".length();
        String code = readme.substring(from, readme.indexOf("```", from));
        List<List<String>> answers = all("^int (\\w+) = .*; *// (-?\\d+):", code);
        Check.due("every answer of the example is told", answers.size(), all("^int ", code).size());
        String names = answers.stream().map(row -> row.get(0)).collect(Collectors.joining(", "));
        int[] got = run("public class Example { public static int[] answers() {\n" + code
            + "\nreturn new int[] {" + names + "}; } }");
        for (int i = 0; i < got.length; i++) {
            Check.due("the example's " + answers.get(i).get(0), got[i], Integer.parseInt(answers.get(i).get(1)));
        }
        for (List<String> row : all("// (-?\\d+): (ERR_\\w+|[A-Z]{2,})", code)) {
            Check.due("the example's " + row.get(1), value(row.get(1)), Integer.parseInt(row.get(0)));
        }
    }

    private static int[] run(String source) throws IOException, ReflectiveOperationException {
        Path where = Files.createTempDirectory("readme");
        Path file = where.resolve("Example.java");
        try {
            Files.writeString(file, source);
            StringWriter told = new StringWriter();
            try (var files = ToolProvider.getSystemJavaCompiler().getStandardFileManager(null, null, null)) {
                List<String> options = List.of("-cp", System.getProperty("java.class.path"), "-d", where.toString());
                boolean fine = ToolProvider.getSystemJavaCompiler()
                    .getTask(told, files, null, options, null, files.getJavaFileObjects(file)).call();
                Check.due("the example compiles " + told, fine);
                if (!fine) {
                    return new int[0];
                }
            }
            try (URLClassLoader loader = new URLClassLoader(new URL[] {where.toUri().toURL()})) {
                return (int[]) loader.loadClass("Example").getMethod("answers").invoke(null);
            }
        } finally {
            Files.deleteIfExists(where.resolve("Example.class"));
            Files.deleteIfExists(file);
            Files.deleteIfExists(where);
        }
    }

    private static int value(String constant) throws ReflectiveOperationException {
        return HolisticRta.class.getField(constant).getInt(null);
    }

    private static void constants() throws ReflectiveOperationException {
        Map<String, Integer> due = new TreeMap<>();
        for (Field field : HolisticRta.class.getDeclaredFields()) {
            if (Modifier.isPublic(field.getModifiers())) {
                due.put(field.getName(), field.getInt(null));
            }
        }
        Map<String, Integer> told = new TreeMap<>();
        for (List<String> row : all("^\\| `([A-Z_]+)` \\| (-?\\d+) \\|", readme)) {
            told.put(row.get(0), Integer.parseInt(row.get(1)));
        }
        Check.same("the tables of constants", told.toString(), due.toString());
        String use = readme.substring(0, readme.indexOf("\n## Tests"));
        for (List<String> row : all("`([A-Z][A-Z_]+)`", use)) {
            Check.due("the constant " + row.get(0) + " exists", due.containsKey(row.get(0)));
        }
    }

    private static void methods() throws IOException {
        String source = Files.readString(Path.of("src/main/java/HolisticRta.java"));
        List<String> due = new ArrayList<>();
        for (List<String> row : all("^    public int (\\w+\\(.*\\)) \\{", source)) {
            due.add(row.get(0).replace("int ", ""));
        }
        Check.same("the table of methods", rows().keySet().toString(), new TreeSet<>(due).toString());
        for (List<String> row : all("^    public (HolisticRta\\(.*\\)) \\{", source)) {
            String call = "`new " + row.get(0).replace("int ", "") + "`";
            Check.due("the constructor is told as " + call, readme.contains(call));
        }
    }

    /** From each call of the table of methods to the constants that it is refused with. */
    private static Map<String, List<String>> rows() {
        Map<String, List<String>> rows = new TreeMap<>();
        for (List<String> row : all("^\\| `(\\w+\\(.*?\\))` \\| .* \\|([^|]*)\\|$", readme)) {
            rows.put(row.get(0), all("`(\\w+)`", row.get(1)).stream().map(name -> name.get(0)).toList());
        }
        return rows;
    }

    /** The constants in a row are those that the method answers somewhere, and no other. */
    private static void refusals() throws ReflectiveOperationException {
        for (Map.Entry<String, List<String>> row : rows().entrySet()) {
            Set<Integer> told = new TreeSet<>();
            for (String constant : row.getValue()) {
                told.add(value(constant));
            }
            Check.same(row.getKey() + " is refused with", told.toString(), errorsOf(row.getKey()).toString());
        }
    }

    private static Set<Integer> errorsOf(String call) {
        String name = call.substring(0, call.indexOf('('));
        int places = all("(\\w+)[,)]", call).size();
        Set<Integer> seen = new TreeSet<>();
        for (Situation where : new Situation[] {Situation.FRESH, Situation.EMPTY, Situation.REFUSED, Situation.ALL_FULL}) {
            Rta x = new Real(where.make());
            for (String arguments : arguments(places)) {
                int answer = x.call(name + "(" + arguments + ")");
                if (answer <= HolisticRta.ERR_FULL) {
                    seen.add(answer);
                }
            }
        }
        return seen;
    }

    private static List<String> arguments(int places) {
        List<String> lists = List.of("");
        for (int place = 0; place < places; place++) {
            List<String> longer = new ArrayList<>();
            for (String list : lists) {
                for (int value : new int[] {-1, 0, 1, 30, 201}) {
                    longer.add(list.isEmpty() ? "" + value : list + ", " + value);
                }
            }
            lists = longer;
        }
        return lists;
    }

    /** Of two reasons the method answers the one whose constant stands first in its row. */
    private static void orderOfRefusals() throws ReflectiveOperationException {
        firstOf("addTransaction(period, deadline)", Situation.ALL_FULL, "addTransaction(0, 0)");
        firstOf("addStep(tx, resource, cost, priority)", Situation.ALL_FULL, "addStep(8, 7, 0, 0)",
            "addStep(0, 7, 0, 0)");
        firstOf("addStep(tx, resource, cost, priority)", Situation.REFUSED, "addStep(2, 7, 0, 0)", null,
            "addStep(0, 7, 0, 0)", "addStep(0, 0, 0, 10)", "addStep(0, 0, 1, 10)");
        firstOf("setArrivals(tx, offset, extraGap)", Situation.FRESH, "setArrivals(0, -1, -1)");
        firstOf("setArrivals(tx, offset, extraGap)", Situation.EMPTY, null, "setArrivals(0, -1, -1)");
    }

    /** That the call at each place is answered by the constant at that place of the row. */
    private static void firstOf(String row, Situation where, String... calls) throws ReflectiveOperationException {
        List<String> constants = rows().getOrDefault(row, List.of());
        Check.due(row + " has a row of " + calls.length + " constants or more", constants.size() >= calls.length);
        for (int place = 0; place < Math.min(calls.length, constants.size()); place++) {
            if (calls[place] != null) {
                Check.due(where.name + ", " + calls[place], new Real(where.make()).call(calls[place]),
                    value(constants.get(place)));
            }
        }
    }

    /** Every file of the tests is named, by itself or between the ends of a row, and no other is. */
    private static void testNames() throws IOException {
        Set<String> files = new TreeSet<>();
        try (Stream<Path> paths = Files.list(TESTS)) {
            paths.forEach(path -> files.add(path.getFileName().toString().replace(".java", "")));
        }
        Set<String> named = new TreeSet<>();
        for (List<String> row : all("`(\\w+Test|\\w+(?=\\.java`))", readme)) {
            named.add(row.get(0));
        }
        for (List<String> row : all("`(Promise\\w+)` to `(Promise\\w+)`", readme)) {
            files.stream().filter(name -> name.compareTo(row.get(0)) > 0 && name.compareTo(row.get(1)) < 0)
                .forEach(named::add);
        }
        Check.same("the tests and their helpers", named.toString(), files.toString());
    }
}
