import java.io.File;
import java.io.IOException;
import java.lang.reflect.Method;
import java.lang.reflect.Modifier;
import java.nio.file.Files;
import java.nio.file.Path;
import java.util.ArrayList;
import java.util.Arrays;
import java.util.List;
import java.util.Set;
import java.util.TreeSet;
import java.util.regex.Matcher;
import java.util.regex.Pattern;
import javax.tools.ToolProvider;

/** What README.md says of the class and of its tests is so; it is read where .ci/run stands, in the project. */
public final class ReadmeTest extends HeapChecks {
    private static final String EXAMPLE = "ReadmeExample";
    private static final Pattern LINE = Pattern.compile("(?:int (\\w+) = )?(.*?);\\s*(?://\\s*(.*))?");
    private static final Pattern CALL_ROW = Pattern.compile("\\| `(\\w+)\\((.*?)\\)` \\|.*\\|(.*)\\|");
    private static final Pattern EXCEPTION = Pattern.compile("\\w+Exception");
    private static final Pattern TEST_ROW = Pattern.compile("- `(\\w+)`: .*");

    public static void main(String[] args) throws Exception {
        List<String> readme = Files.readAllLines(Path.of("README.md"));
        List<String> example = javaBlock(readme);
        compile(example);
        sentence("the run of calls answers what README.md says", ReadmeTest::runExample);
        sentence("the table has every call, with its exceptions", () -> tableHasCalls(readme));
        sentence("the list has every test", () -> listHasTests(readme));
        finish();
    }

    private static List<String> javaBlock(List<String> readme) {
        int from = readme.indexOf("```java") + 1;
        List<String> rest = readme.subList(from, readme.size());
        return rest.subList(0, rest.indexOf("```"));
    }

    // The class comes to where the tests' classes are, so that it is found beside them and goes with them.
    private static void compile(List<String> example) throws IOException {
        String classes = System.getProperty("java.class.path");
        List<String> lines = new ArrayList<>();
        lines.add("final class " + EXAMPLE + " extends HeapChecks {");
        lines.add("static void run() {");
        example.forEach(line -> lines.add(checked(line)));
        lines.add("} }");
        Path source = Files.write(Path.of(classes, EXAMPLE + ".java"), lines);
        int code = ToolProvider.getSystemJavaCompiler()
            .run(null, null, null, "-d", classes, "-cp", classes, source.toString());
        if (code != 0) {
            throw new IllegalStateException("the run of calls in README.md does not compile");
        }
    }

    /** A line of the run, with a check of the answer or exception with which its comment begins. */
    private static String checked(String line) {
        Matcher parts = LINE.matcher(line);
        if (!parts.matches()) {
            throw new IllegalStateException("not a line of the run: " + line);
        }
        String name = parts.group(1);
        String call = parts.group(2);
        String due = parts.group(3) == null ? "" : parts.group(3).split("[: ]")[0];
        if (EXCEPTION.matcher(due).matches()) {
            return "same(\"" + call + "\", thrownBy(heap, h -> " + call + "), \"" + due + "\");";
        }
        if (!due.matches("-?\\d+")) {
            return line;
        }
        String made = name == null ? "" : "int " + name + " = " + call + "; ";
        return made + "same(\"" + call + "\", " + (name == null ? call : name) + ", " + due + ");";
    }

    private static void runExample() {
        try {
            Method run = Class.forName(EXAMPLE).getDeclaredMethod("run");
            run.invoke(null);
        } catch (ReflectiveOperationException e) {
            throw new IllegalStateException(e.getCause() == null ? e : e.getCause());
        }
    }

    private static void tableHasCalls(List<String> readme) {
        Set<String> told = new TreeSet<>();
        for (String line : readme) {
            Matcher row = CALL_ROW.matcher(line);
            if (row.matches()) {
                long parameters = row.group(2).isEmpty() ? 0 : row.group(2).split(", ").length;
                List<String> thrown = EXCEPTION.matcher(row.group(3)).results().map(r -> r.group()).toList();
                told.add(row.group(1) + " " + parameters + " " + thrown);
            }
        }
        Set<String> due = new TreeSet<>();
        for (Method method : SlidingHeap.class.getDeclaredMethods()) {
            if (Modifier.isPublic(method.getModifiers())) {
                List<String> thrown = Arrays.stream(method.getExceptionTypes()).map(Class::getSimpleName).toList();
                due.add(method.getName() + " " + method.getParameterCount() + " " + thrown);
            }
        }
        same("calls, their parameters and exceptions", told, due);
    }

    private static void listHasTests(List<String> readme) {
        Set<String> told = new TreeSet<>();
        for (String line : readme) {
            Matcher row = TEST_ROW.matcher(line);
            if (row.matches()) {
                told.add(row.group(1) + ".java");
            }
        }
        String[] files = new File("src/test/java").list();
        same("tests", told, new TreeSet<>(Arrays.asList(files)));
    }
}
