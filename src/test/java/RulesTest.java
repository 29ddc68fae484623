import java.io.IOException;
import java.lang.reflect.Field;
import java.lang.reflect.Modifier;
import java.nio.file.Files;
import java.nio.file.Path;
import java.util.ArrayList;
import java.util.HashMap;
import java.util.HashSet;
import java.util.List;
import java.util.Map;
import java.util.Set;
import java.util.TreeMap;
import java.util.TreeSet;
import java.util.regex.Matcher;
import java.util.regex.Pattern;

/** Rule 11 of LANGUAGE.md: how long a method is, how many fields a class has, how deep calls go. */
public final class RulesTest {
    private static final int MOST_LINES = 60;
    private static final int MOST_FIELDS = 20;
    private static final int MOST_DEEP = 8;

    /** A method or a constructor: its name, and what is between its braces. */
    private static final Pattern HEAD =
        Pattern.compile("(?m)^ +(?:(?:public|private|static|final|abstract) +)*(?:[\\w\\[\\]]+ +)?(\\w+)\\([^()]*\\)[^;{}()]*\\{");
    private static final Pattern CALLED = Pattern.compile("\\b(\\w+)\\(");

    private final Map<String, Set<String>> calls = new TreeMap<>();
    private final Map<String, Set<String>> reached = new HashMap<>();

    public static void main(String[] args) throws IOException {
        RulesTest rules = new RulesTest();
        rules.methods(bare(Files.readString(Path.of("src/main/java/DiceOdds.java"))));
        rules.depth();
        fields();
        Check.finish();
    }

    /** The source without comments, texts and characters, which may hold braces. */
    private static String bare(String source) {
        return source.replaceAll("(?s)/\\*.*?\\*/", "").replaceAll("//[^\n]*", "")
            .replaceAll("\"[^\"\n]*\"", "\"\"").replaceAll("'[^'\n]'", "0");
    }

    private void methods(String source) {
        Map<String, String> bodies = new TreeMap<>();
        Matcher head = HEAD.matcher(source);
        while (head.find()) {
            String body = source.substring(head.end(), closing(source, head.end()));
            long lines = body.lines().count();
            Check.same(head.group(1) + " is short", lines <= MOST_LINES, true);
            bodies.merge(head.group(1), body, String::concat);
        }
        Check.same("methods are found", bodies.keySet().containsAll(List.of("read", "lay", "Dice", "settle")), true);
        for (Map.Entry<String, String> each : bodies.entrySet()) {
            Set<String> called = new TreeSet<>();
            Matcher call = CALLED.matcher(each.getValue());
            while (call.find()) {
                if (bodies.containsKey(call.group(1))) {
                    called.add(call.group(1));
                }
            }
            calls.put(each.getKey(), called);
        }
    }

    private static int closing(String source, int from) {
        int open = 1;
        int at = from;
        while (open > 0) {
            char next = source.charAt(at);
            open += next == '{' ? 1 : next == '}' ? -1 : 0;
            at++;
        }
        return at - 1;
    }

    private void depth() {
        for (String name : calls.keySet()) {
            Set<String> all = new HashSet<>();
            reach(name, all);
            reached.put(name, all);
        }
        for (String name : calls.keySet()) {
            List<String> deepest = deepest(name);
            Check.same("calls that are no recursion, " + deepest, deepest.size() <= MOST_DEEP, true);
        }
    }

    private void reach(String name, Set<String> all) {
        for (String called : calls.get(name)) {
            if (all.add(called)) {
                reach(called, all);
            }
        }
    }

    /** The longest chain of calls from a method on; methods that call one another count as one. */
    private List<String> deepest(String name) {
        List<String> longest = List.of();
        for (String one : calls.keySet()) {
            if (one.equals(name) || inOneRing(one, name)) {
                for (String called : calls.get(one)) {
                    List<String> chain = called.equals(name) || inOneRing(called, name) ? List.of() : deepest(called);
                    longest = chain.size() > longest.size() ? chain : longest;
                }
            }
        }
        List<String> all = new ArrayList<>(List.of(name));
        all.addAll(longest);
        return all;
    }

    private boolean inOneRing(String one, String two) {
        return reached.get(one).contains(two) && reached.get(two).contains(one);
    }

    private static void fields() {
        List<Class<?>> classes = new ArrayList<>(List.of(DiceOdds.class.getDeclaredClasses()));
        classes.add(DiceOdds.class);
        for (Class<?> each : classes) {
            int fields = 0;
            for (Field field : each.getDeclaredFields()) {
                fields += Modifier.isStatic(field.getModifiers()) ? 0 : 1;
            }
            Check.same(each + " has few fields", fields <= MOST_FIELDS, true);
        }
    }
}
