import java.io.IOException;
import java.io.UncheckedIOException;
import java.nio.charset.StandardCharsets;
import java.nio.file.Files;
import java.nio.file.Path;

/** What all tests share: an object that is asked, and a count of the answers that are not as due. */
final class Check {
    static final String ARGUMENT = "throws.IllegalArgumentException";
    static final String STATE = "throws.IllegalStateException";
    static final String INDEX = "throws.IndexOutOfBoundsException";
    /** What are no slots: one below and one above them, and those farthest from them. */
    static final int[] NO_SLOTS = {-1, 3, Integer.MIN_VALUE, Integer.MAX_VALUE};
    /** An expression with the greatest factor, 2^31; it has 32 values, 31 to 62. */
    static final String ALL_COINS = "6d2+6d2+6d2+6d2+6d2+d2";
    static final long MOST_FALLS = 2147483648L;

    /** A call of the face. */
    interface Call {
        long answer(DiceOdds x);
    }

    private static int wrong = 0;
    private static String sentence = "";

    private Check() {
    }

    /**
     * A sentence of the document, in its own words, and the test of it: what is wrong there is told with the sentence.
     * With -Ddoc=../shared/DOC.md the words themselves are looked up.
     */
    static void holds(String words, Runnable test) {
        sentence = "\"" + words + "\": ";
        if (System.getProperty("doc") != null) {
            same("the words are in the document", lookUp(words), true);
        }
        test.run();
        sentence = "";
    }

    private static boolean lookUp(String words) {
        try {
            return Files.readString(Path.of(System.getProperty("doc"))).contains(words);
        } catch (IOException e) {
            throw new UncheckedIOException(e);
        }
    }

    /** The answer as a text; of an exception its very class, so that those of the machine are told apart. */
    static String ask(DiceOdds x, Call call) {
        try {
            return Long.toString(call.answer(x));
        } catch (RuntimeException e) {
            return "throws." + e.getClass().getSimpleName();
        }
    }

    static void due(String what, DiceOdds x, Call call, Object want) {
        same(what, ask(x, call), want);
    }

    static void same(String what, Object got, Object want) {
        if (!String.valueOf(got).equals(String.valueOf(want))) {
            wrong++;
            System.out.println(sentence + what + ": answered " + got + ", due is " + want);
        }
    }

    /** Ends the test, with exit code 1 if an answer was wrong. */
    static void finish() {
        if (wrong > 0) {
            System.out.println(wrong + " answers are not as due");
            System.exit(1);
        }
    }

    static long packed(String some) {
        long characters = 0;
        for (byte b : some.getBytes(StandardCharsets.ISO_8859_1)) {
            characters = characters << 8 | (b & 255);
        }
        return characters;
    }

    static void typeAll(DiceOdds x, String text) {
        for (int i = 0; i < text.length(); i += 8) {
            String some = text.substring(i, Math.min(i + 8, text.length()));
            same("typing " + text, x.type(packed(some), some.length()), i + some.length());
        }
    }

    /** A new object with a text. */
    static DiceOdds typed(String text) {
        DiceOdds x = new DiceOdds();
        typeAll(x, text);
        return x;
    }

    static String textOf(DiceOdds x) {
        StringBuilder text = new StringBuilder();
        for (int next = x.character(0); next != DiceOdds.NONE; next = x.character(text.length())) {
            text.append((char) next);
        }
        return text.toString();
    }

    /** A new object with a program in a slot. */
    static DiceOdds with(String text, int slot) {
        DiceOdds x = new DiceOdds();
        put(x, text, slot);
        return x;
    }

    static void put(DiceOdds x, String text, int slot) {
        x.wipe();
        typeAll(x, text);
        String answer = ask(x, y -> y.read(slot));
        if (answer.startsWith("throws")) {
            same("reading " + text, answer + " at " + x.place(), "a program");
        }
    }

    /** A new object with a program that was run well. */
    static DiceOdds ran(String text, int slot) {
        DiceOdds x = with(text, slot);
        due("run of " + text, x, y -> y.run(slot), 0);
        return x;
    }

    /** A text, a place where another was wrong, a result in slot 0, a program without one in slot 1, none in slot 2. */
    static DiceOdds used() {
        DiceOdds x = new DiceOdds();
        typeAll(x, "A=1");
        due("read of A=1", x, y -> y.read(2), ARGUMENT);
        put(x, "A=[4,4,7];", 0);
        due("run of the used object", x, y -> y.run(0), 0);
        put(x, "B=d3;", 1);
        typeAll(x, "!A");
        return x;
    }

    /** All that an object tells without being changed. */
    static String told(DiceOdds x) {
        StringBuilder all = new StringBuilder(textOf(x));
        all.append(" place ").append(x.place()).append(" states ").append(x.states());
        for (int slot = 0; slot < 3; slot++) {
            int s = slot;
            all.append(" factor ").append(ask(x, y -> y.factor(s))).append(" total ").append(ask(x, y -> y.total(s)));
            all.append(" outcomes ").append(result(x, slot));
        }
        return all.toString();
    }

    /** The programs of all slots; the text is another one then. */
    static String programs(DiceOdds x) {
        StringBuilder all = new StringBuilder();
        for (int slot = 0; slot < 3; slot++) {
            int s = slot;
            all.append(' ').append(ask(x, y -> y.print(s))).append(' ').append(textOf(x));
        }
        return all.toString();
    }

    /** A call that changes nothing in a used object, whatever it answers. */
    static void leavesAll(String what, Call call, Object want) {
        DiceOdds x = used();
        String before = told(x);
        due(what, x, call, want);
        same("what the object tells behind " + what, told(x), before);
        same("the programs behind " + what, programs(x), programs(used()));
    }

    /** A text that is a program with so many statements. */
    static void good(String text, int statements) {
        DiceOdds x = new DiceOdds();
        typeAll(x, text);
        due("read of " + text, x, y -> y.read(1), statements);
        due("text behind read of " + text, x, y -> y.wipe(), 0);
        due("place behind read of " + text, x, y -> y.place(), DiceOdds.NONE);
    }

    /** A text that is no program, wrong at a place: it stays, and so does the slot. */
    static void bad(String text, int place) {
        DiceOdds x = used();
        x.wipe();
        typeAll(x, text);
        due("read of " + text, x, y -> y.read(0), ARGUMENT);
        due("place in " + text, x, y -> y.place(), place);
        same("text behind read of " + text, textOf(x), text);
        same("result behind read of " + text, result(x, 0), "4:2 7:1");
        due("print behind read of " + text, x, y -> y.print(0), 10);
        same("program behind read of " + text, textOf(x), "A=[4,4,7];");
    }

    /** A program that is run well, and the outcomes with their ways. */
    static void gives(String text, String want) {
        DiceOdds x = ran(text, 1);
        same("result of " + text, result(x, 1), want);
    }

    /** How a run ends, and how many states there were; there is a result only behind 0. */
    static void ends(String text, int end, int states) {
        DiceOdds x = with(text, 1);
        due("run of " + text, x, y -> y.run(1), end);
        due("states of " + text, x, y -> y.states(), states);
        same("result of " + text, ask(x, y -> y.outcomes(1)).equals(STATE), end != 0);
    }

    static void factor(String text, long want) {
        DiceOdds x = with(text, 0);
        due("factor of " + text, x, y -> y.factor(0), want);
    }

    /** The outcomes with their ways, as "outcome:ways outcome:ways", or what is thrown without a result. */
    static String result(DiceOdds x, int slot) {
        StringBuilder told = new StringBuilder();
        String n = ask(x, y -> y.outcomes(slot));
        if (n.startsWith("throws")) {
            return n;
        }
        for (int i = 0; i < Integer.parseInt(n); i++) {
            told.append(i == 0 ? "" : " ").append(x.outcome(slot, i)).append(':').append(x.ways(slot, i));
        }
        return told.toString();
    }

    static String times(String text, int n) {
        return text.repeat(n);
    }
}
