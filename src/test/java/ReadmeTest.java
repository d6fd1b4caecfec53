import java.io.IOException;
import java.lang.reflect.Field;
import java.lang.reflect.InvocationTargetException;
import java.lang.reflect.Method;
import java.lang.reflect.Modifier;
import java.nio.file.DirectoryStream;
import java.nio.file.Files;
import java.nio.file.Path;
import java.util.TreeSet;
import java.util.regex.Matcher;
import java.util.regex.Pattern;

/** What README.md says of the calls and of the tests is so. */
public final class ReadmeTest {
    private static final Pattern TEXT = Pattern.compile("for \\(char c : \"([^\"]*)\"\\.toCharArray\\(\\)\\) x\\.type\\(c\\);");
    private static final Pattern CALL = Pattern.compile("x\\.(\\w+)\\(([^)]*)\\); +// (-?[0-9]+)\\b.*");
    private static final Pattern ROW = Pattern.compile("(?m)^\\| `(\\w+)\\(([^)]*)\\)` \\|");
    private static final Pattern ANSWER = Pattern.compile("(?m)^\\| `([A-Z]+)` \\| (-[0-9]+) \\|");
    private static final Pattern FILE = Pattern.compile("`([A-Z][A-Za-z]+)`");
    private static final Due due = new Due("ReadmeTest");

    public static void main(String[] args) throws Exception {
        String page = Files.readString(Path.of("README.md"));
        example(page);
        calls(page);
        answers(page);
        tests(page);
        due.end();
    }

    /** Line by line on the class and on the naive one. */
    private static void example(String page) throws Exception {
        String code = page.substring(page.indexOf("```java") + 7, page.indexOf("```", page.indexOf("```java") + 7));
        SummerWall x = new SummerWall();
        NaiveWall naive = new NaiveWall();
        TreeSet<String> called = new TreeSet<>();
        called.add("type");
        for (String line : code.trim().split("\n")) {
            Matcher text = TEXT.matcher(line), call = CALL.matcher(line);
            if (text.matches()) {
                for (char c : text.group(1).toCharArray()) {
                    due.is(line, x.type(c), naive.type(c));
                }
            } else if (call.matches()) {
                int want = Integer.parseInt(call.group(3));
                due.is(line, answer(x, call.group(1), call.group(2)), want);
                due.is(line + " (NaiveWall)", answer(naive, call.group(1), call.group(2)), want);
                called.add(call.group(1));
            } else {
                due.that("a line of another kind: " + line, line.isBlank() || line.equals("SummerWall x = new SummerWall();"));
            }
        }
        due.same("each call is in the example", called.toString(), face().toString());
    }

    private static int answer(Object x, String name, String arguments) throws IllegalAccessException, InvocationTargetException {
        String[] given = arguments.isBlank() ? new String[0] : arguments.replace("SummerWall.NONE", "-4").split(", ");
        for (Method m : x.getClass().getDeclaredMethods()) {
            if (m.getName().equals(name) && m.getParameterCount() == given.length) {
                Object[] values = new Object[given.length];
                for (int k = 0; k < given.length; k++) {
                    boolean wide = m.getParameterTypes()[k] == long.class;
                    values[k] = wide ? (Object) Long.valueOf(given[k]) : (Object) Integer.valueOf(given[k]);
                }
                return (Integer) m.invoke(x, values);
            }
        }
        throw new IllegalArgumentException("no call " + name + "(" + arguments + ")");
    }

    private static TreeSet<String> face() {
        TreeSet<String> names = new TreeSet<>();
        for (Method m : SummerWall.class.getDeclaredMethods()) {
            if (Modifier.isPublic(m.getModifiers())) {
                names.add(m.getName());
            }
        }
        return names;
    }

    private static void calls(String page) throws IOException {
        String source = Files.readString(Path.of("src/main/java/SummerWall.java"));
        TreeSet<String> named = new TreeSet<>();
        Matcher row = ROW.matcher(page);
        while (row.find()) {
            String parameters = row.group(2).replaceAll("(\\w+)", "(int|long) $1");
            Pattern head = Pattern.compile("public int " + row.group(1) + "\\(" + parameters + "\\) \\{");
            due.that("as in the class: " + row.group(), head.matcher(source).find());
            named.add(row.group(1));
        }
        due.same("each call is in the table", named.toString(), face().toString());
    }

    private static void answers(String page) throws Exception {
        Matcher answer = ANSWER.matcher(page);
        int named = 0;
        while (answer.find()) {
            Field f = SummerWall.class.getField(answer.group(1));
            due.is(answer.group(1), f.getInt(null), Integer.parseInt(answer.group(2)));
            named++;
        }
        due.is("each answer below 0 is in the table", named, SummerWall.class.getFields().length);
    }

    /** Each file of the tests is named there, and what is named there is a file; .ci/run runs each that ends in Test. */
    private static void tests(String page) throws IOException {
        String list = page.substring(page.indexOf("## Tests"));
        TreeSet<String> named = new TreeSet<>(), there = new TreeSet<>();
        Matcher file = FILE.matcher(list);
        while (file.find()) {
            named.add(file.group(1));
        }
        try (DirectoryStream<Path> files = Files.newDirectoryStream(Path.of("src/test/java"))) {
            for (Path p : files) {
                there.add(p.getFileName().toString().replace(".java", ""));
            }
        }
        due.same("the list of tests", named.toString(), there.toString());
        due.that(".ci/run is there and can be run", Files.isExecutable(Path.of(".ci/run")));
        String run = Files.readString(Path.of(".ci/run"));
        due.that("it runs every test of the project", run.contains("for test in src/test/java/*Test.java"));
        due.that("it runs every test of ../shared/tests", run.contains("\"$shared\"/tests/*.java") && run.contains("shared=../shared\n"));
    }
}
