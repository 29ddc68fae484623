import java.io.IOException;
import java.lang.reflect.Constructor;
import java.lang.reflect.Executable;
import java.lang.reflect.Field;
import java.lang.reflect.Method;
import java.lang.reflect.Modifier;
import java.nio.file.Files;
import java.nio.file.Path;
import java.util.ArrayList;
import java.util.Arrays;
import java.util.Collections;
import java.util.List;
import java.util.TreeSet;
import java.util.regex.Matcher;
import java.util.regex.Pattern;

/** The public face of the document, and those rules of LANGUAGE.md that can be looked at from outside. */
public final class FaceTest {
    private static final String[] FACE = {
        "NONE -1000", "OVER -1", "MANY -2", "IMPOSSIBLE -3", "DiceOdds()",
        "int type(long,int)", "int wipe()", "int character(int)", "int read(int) A", "int place()",
        "int print(int) AS", "int run(int) AS", "int states()", "long factor(int) AS", "int outcomes(int) AS",
        "int outcome(int,int) ASI", "long ways(int,int) ASI", "long total(int) AS", "long moment(int,int) AS",
        "int millionths(int,int) ASI", "int percentile(int,int,int) AS", "int sample(int,long) ASI",
        "long compare(int,int,int) AS"};

    private static final String[] FORBIDDEN = {
        "->", "::", "\\bcatch\\b", "\\bfinally\\b", "\\bsynchronized\\b", "\\bassert\\b", "Exact\\b", "\\bgetMessage\\b",
        "\\bstatic\\s*\\{", "\\bThread\\b", "\\bRandom\\b", "\\bSystem\\.(?!arraycopy)", "import (?!java\\.util\\.Arrays;)",
        "while \\(true\\)", "for \\(;;\\)", "\\bhashCode\\b", "\\btoString\\b", "\\.equals\\b"};

    public static void main(String[] args) throws IOException, IllegalAccessException {
        face();
        inside();
        source();
        Check.finish();
    }

    private static void face() throws IllegalAccessException {
        Check.same("modifiers", Modifier.toString(DiceOdds.class.getModifiers()), "public final");
        List<String> seen = new ArrayList<>();
        for (Field field : DiceOdds.class.getDeclaredFields()) {
            if (!Modifier.isPrivate(field.getModifiers())) {
                Check.same(field.getName(), field.toGenericString(), "public static final int DiceOdds." + field.getName());
                seen.add(field.getName() + " " + field.get(null));
            }
        }
        for (Constructor<?> made : DiceOdds.class.getDeclaredConstructors()) {
            seen.add(told(made, "DiceOdds"));
        }
        for (Method method : DiceOdds.class.getDeclaredMethods()) {
            if (!Modifier.isPrivate(method.getModifiers())) {
                Check.same(method.getName(), Modifier.toString(method.getModifiers()), "public");
                seen.add(told(method, method.getReturnType() + " " + method.getName()));
            }
        }
        Collections.sort(seen);
        String[] face = FACE.clone();
        Arrays.sort(face);
        Check.same("the face", seen, Arrays.asList(face));
    }

    private static String told(Executable called, String name) {
        StringBuilder all = new StringBuilder(name).append('(');
        for (Class<?> type : called.getParameterTypes()) {
            all.append(all.charAt(all.length() - 1) == '(' ? "" : ",").append(type);
        }
        all.append(')');
        for (Class<?> thrown : called.getExceptionTypes()) {
            all.append(all.charAt(all.length() - 1) == ')' ? " " : "");
            all.append(thrown.getSimpleName().replaceAll("Illegal|ndexOutOfBounds", "").charAt(0));
        }
        return all.toString();
    }

    private static void inside() {
        TreeSet<String> open = new TreeSet<>();
        for (Method method : DiceOdds.class.getDeclaredMethods()) {
            if (Modifier.isPublic(method.getModifiers())) {
                open.add(method.getName());
            }
        }
        Class<?>[] classes = DiceOdds.class.getDeclaredClasses();
        Check.same("at most some twelve classes", classes.length < 12, true);
        for (Class<?> inner : classes) {
            Check.same(inner + " is private and static",
                Modifier.isPrivate(inner.getModifiers()) && Modifier.isStatic(inner.getModifiers()), true);
            for (Method method : inner.getDeclaredMethods()) {
                Check.same(method + " bears a public name", open.contains(method.getName()), false);
                Check.same(method + " takes at most seven", method.getParameterCount() <= 7, true);
            }
        }
    }

    private static void source() throws IOException {
        String all = Files.readString(Path.of("src/main/java/DiceOdds.java"));
        String code = all.replaceAll("(?s)/\\*.*?\\*/", "").replaceAll("//[^\n]*", "");
        for (String forbidden : FORBIDDEN) {
            Matcher found = Pattern.compile(forbidden).matcher(code);
            Check.same("source has " + forbidden, found.find() ? found.group() : "none", "none");
        }
    }
}
