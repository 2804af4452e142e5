import java.lang.reflect.Method;
import java.nio.file.Files;
import java.nio.file.Path;
import java.util.ArrayList;
import java.util.List;
import java.util.Set;
import java.util.TreeSet;
import java.util.regex.Matcher;
import java.util.regex.Pattern;
import java.util.stream.Stream;

/** What README.md says holds: its example answers as it tells, and the calls and files that it names are those there are. */
public final class ReadmeTest {
    private static final Path README = Path.of("README.md");
    private static final String FENCE = "```";
    private static final String START = "ActionPlanner planner = new ActionPlanner();";
    private static final Pattern CALL = Pattern.compile("planner\\.(\\w+)\\(([-0-9, ]*)\\);\\s*//\\s*(.*)");
    private static final Pattern ANSWER = Pattern.compile("(-?\\d+)(:.*)?");
    private static final Pattern ROW = Pattern.compile("(?m)^\\| `(\\w+)\\(([\\w, ]*)\\)` \\|");
    private static final Pattern PATH = Pattern.compile("`((?:src/|\\.\\./|\\.ci/)[\\w./]+)`");

    public static void main(String[] args) throws Exception {
        String text = Files.readString(README);
        example(text);
        calls(text);
        files(text);
        Check.end();
    }

    private static void example(String text) throws Exception {
        List<String> lines = exampleLines(text);
        Check.isTrue("example: it starts with a new object", !lines.isEmpty() && lines.get(0).equals(START));
        Set<String> used = new TreeSet<>();
        ActionPlanner planner = new ActionPlanner();
        for (String line : lines.subList(Math.min(1, lines.size()), lines.size())) {
            Matcher call = CALL.matcher(line);
            boolean read = call.matches();
            Check.isTrue("example: a call and what comes of it: " + line, read);
            if (read) {
                used.add(call.group(1));
                exampleCall(planner, line, call);
            }
        }
        Check.isTrue("example: it shows every call, " + used, used.equals(publicNames()));
    }

    private static List<String> exampleLines(String text) {
        List<String> lines = new ArrayList<>();
        boolean inside = false;
        for (String line : text.split("\n")) {
            if (line.startsWith(FENCE)) {
                inside = line.equals(FENCE + "java");
            } else if (inside) {
                lines.add(line);
            }
        }
        return lines;
    }

    private static void exampleCall(ActionPlanner planner, String line, Matcher call) throws Exception {
        String[] told = call.group(2).isEmpty() ? new String[0] : call.group(2).split(", ");
        Class<?>[] types = new Class<?>[told.length];
        Object[] numbers = new Object[told.length];
        for (int i = 0; i < told.length; i++) {
            types[i] = int.class;
            numbers[i] = Integer.valueOf(told[i]);
        }
        Object got = ActionPlanner.class.getMethod(call.group(1), types).invoke(planner, numbers);
        Matcher answer = ANSWER.matcher(call.group(3));
        boolean tells = answer.matches();
        Check.isTrue("example: an answer is told where there is one: " + line, tells == got instanceof Integer);
        if (tells && got instanceof Integer number) {
            Check.due("example: " + line, number, Integer.parseInt(answer.group(1)));
        }
    }

    private static Set<String> publicNames() {
        Set<String> names = new TreeSet<>();
        for (Method method : methods()) {
            names.add(method.getName());
        }
        return names;
    }

    private static List<Method> methods() {
        List<Method> methods = new ArrayList<>();
        for (Method method : ActionPlanner.class.getMethods()) {
            if (method.getDeclaringClass() == ActionPlanner.class) {
                methods.add(method);
            }
        }
        return methods;
    }

    /** The table has one row for each call, with as many parameters as the call. */
    private static void calls(String text) {
        Set<String> rows = new TreeSet<>();
        Matcher row = ROW.matcher(text);
        while (row.find()) {
            int parameters = row.group(2).isEmpty() ? 0 : row.group(2).split(", ").length;
            Check.isTrue("table: once: " + row.group(1), rows.add(row.group(1) + " " + parameters));
        }
        Set<String> due = new TreeSet<>();
        for (Method method : methods()) {
            due.add(method.getName() + " " + method.getParameterCount());
        }
        Check.isTrue("table: the calls are " + due + ", the rows " + rows, rows.equals(due));
    }

    private static void files(String text) throws Exception {
        Set<String> named = new TreeSet<>();
        Matcher path = PATH.matcher(text);
        while (path.find()) {
            named.add(path.group(1));
            Check.isTrue("files: there is " + path.group(1), Files.exists(Path.of(path.group(1))));
        }
        try (Stream<Path> tests = Files.list(Path.of("src/test/java"))) {
            for (Path test : tests.filter(file -> file.toString().endsWith("Test.java")).toList()) {
                Check.isTrue("files: README.md names " + test, named.contains(test.toString()));
            }
        }
    }
}
