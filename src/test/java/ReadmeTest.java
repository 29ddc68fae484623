import java.io.IOException;
import java.lang.reflect.InvocationTargetException;
import java.lang.reflect.Method;
import java.lang.reflect.Modifier;
import java.nio.file.Files;
import java.nio.file.Path;
import java.util.Set;
import java.util.TreeSet;
import java.util.regex.Matcher;
import java.util.regex.Pattern;
import java.util.stream.Collectors;
import java.util.stream.Stream;

/** README.md: the calls that it shows give the answers that it tells, one behind another on one object. */
public final class ReadmeTest {
    private static final Pattern BLOCK = Pattern.compile("(?s)```java\n(.*?)```");
    /** A call, and behind it the answer: a number, a constant or an exception; a colon and words may follow. */
    private static final Pattern SHOWN = Pattern.compile("odds\\.(\\w+)\\((.*)\\); +// (throws \\w+|-?\\w+)(?:: .+)?");
    private static final Pattern TYPED = Pattern.compile("typeAll\\(odds, \"(\\S+)\"\\); +// (-?\\d+)(?:: .+)?");
    private static final Pattern SHOWN_TEXT = Pattern.compile("odds\\.(?:type|print)\\(.*: (\\S+)");
    /** A row of the table of programs: the program, what it is, and its outcomes with their ways or how its run ends. */
    private static final Pattern PROGRAM = Pattern.compile("(?m)^\\| `([^`|]+)` \\| [^|]+ \\| `([^`|]+)` \\|$");
    private static final Pattern TEST = Pattern.compile("(?m)^\\| (\\w+Test) \\| ");

    private static final Set<String> shown = new TreeSet<>();
    private static DiceOdds odds = null;

    public static void main(String[] args) throws IOException, ReflectiveOperationException {
        String readme = Files.readString(Path.of("README.md"));
        Matcher block = BLOCK.matcher(readme);
        while (block.find()) {
            if (block.group(1).startsWith("static ")) {
                helper(block.group(1));
            } else {
                for (String line : block.group(1).split("\n")) {
                    line(line);
                }
            }
        }
        everyCall();
        programs(readme);
        tests(readme);
        Check.finish();
    }

    // What README.md shows, to its last letter.
    static int typeAll(DiceOdds odds, String some) {
        int answer = 0;
        for (int i = 0; i < some.length(); i += 8) {
            int n = Math.min(8, some.length() - i);
            long characters = 0;
            for (int j = 0; j < n; j++) {
                characters = characters << 8 | some.charAt(i + j);
            }
            answer = odds.type(characters, n);
        }
        return answer;
    }

    private static void helper(String code) throws IOException {
        String here = Files.readString(Path.of("src/test/java/ReadmeTest.java"));
        Check.same("README.md's method is the one that is tested",
            code.endsWith("\n}\n") && here.contains(code.indent(4)), true);
    }

    private static void line(String line) throws ReflectiveOperationException {
        Matcher call = SHOWN.matcher(line);
        Matcher typing = TYPED.matcher(line);
        if (line.equals("DiceOdds odds = new DiceOdds();")) {
            odds = new DiceOdds();
        } else if (call.matches()) {
            shown.add(call.group(1));
            Check.same("README.md: " + line, answer(call.group(1), call.group(2).split(", ")), due(call.group(3)));
            textShown(line);
        } else if (typing.matches()) {
            Check.same("README.md: " + line, typeAll(odds, typing.group(1)), typing.group(2));
        } else {
            Check.same("README.md: " + line, "no call with its answer", line.isEmpty() ? "no call with its answer" : "one");
        }
    }

    /** Behind a type or print that is done README.md tells the text. */
    private static void textShown(String line) {
        Matcher told = SHOWN_TEXT.matcher(line);
        if (told.matches()) {
            Check.same("README.md, the text behind " + line, Check.textOf(odds), told.group(1));
        }
    }

    private static String answer(String name, String[] arguments) throws ReflectiveOperationException {
        for (Method method : DiceOdds.class.getMethods()) {
            if (method.getName().equals(name)) {
                Class<?>[] types = method.getParameterTypes();
                Object[] values = new Object[types.length];
                for (int i = 0; i < types.length; i++) {
                    long value = Long.decode(arguments[i].replaceAll("L$", ""));
                    values[i] = types[i] == int.class ? (Object) (int) value : (Object) value;
                }
                return invoked(method, values);
            }
        }
        return "no such method";
    }

    private static String invoked(Method method, Object[] values) throws ReflectiveOperationException {
        try {
            return String.valueOf(method.invoke(odds, values));
        } catch (InvocationTargetException e) {
            return "throws " + e.getCause().getClass().getSimpleName();
        }
    }

    private static String due(String told) throws ReflectiveOperationException {
        return told.matches("[A-Z]+") ? String.valueOf(DiceOdds.class.getField(told).getInt(null)) : told;
    }

    private static void everyCall() {
        Set<String> face = Stream.of(DiceOdds.class.getDeclaredMethods())
            .filter(m -> Modifier.isPublic(m.getModifiers())).map(Method::getName)
            .collect(Collectors.toCollection(TreeSet::new));
        Check.same("the calls that README.md shows", shown, face);
    }

    private static void programs(String readme) throws ReflectiveOperationException {
        Matcher row = PROGRAM.matcher(readme);
        int rows = 0;
        while (row.find()) {
            rows++;
            DiceOdds x = Check.with(row.group(1), 0);
            String end = Check.ask(x, y -> y.run(0));
            String got = end.equals("0") ? Check.result(x, 0) : end;
            Check.same("README.md: " + row.group(1), got, due(row.group(2)));
        }
        Check.same("README.md has a table of programs", rows > 0, true);
    }

    private static void tests(String readme) throws IOException {
        Set<String> told = new TreeSet<>();
        Matcher row = TEST.matcher(readme);
        while (row.find()) {
            told.add(row.group(1));
        }
        try (Stream<Path> files = Files.list(Path.of("src/test/java"))) {
            Set<String> all = files.map(p -> p.getFileName().toString()).filter(n -> n.endsWith("Test.java"))
                .map(n -> n.replace(".java", "")).collect(Collectors.toCollection(TreeSet::new));
            Check.same("the tests that README.md tells", told, all);
        }
        Check.same("README.md tells how to run the tests", readme.contains("```sh\n.ci/run\n```"), true);
        Check.same(".ci/run can be run", Files.isExecutable(Path.of(".ci/run")), true);
    }
}
