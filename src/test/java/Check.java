import java.nio.charset.StandardCharsets;

/** What all tests share: an object that is asked, and a count of the answers that are not as due. */
final class Check {
    static final String ARGUMENT = "throws.IllegalArgumentException";
    static final String STATE = "throws.IllegalStateException";
    static final String INDEX = "throws.IndexOutOfBoundsException";

    /** A call of the face. */
    interface Call {
        long answer(DiceOdds x);
    }

    private static int wrong = 0;

    private Check() {
    }

    /** The answer as a text; of an exception its very class, so that those of the machine are told apart. */
    static String ask(DiceOdds x, Call call) {
        try {
            return Long.toString(call.answer(x));
        } catch (RuntimeException e) {
            return "throws." + e.getClass().getSimpleName();
        }
    }

    static void due(String what, DiceOdds x, Call call, Object want) {
        same(what, ask(x, call), want);
    }

    static void same(String what, Object got, Object want) {
        if (!String.valueOf(got).equals(String.valueOf(want))) {
            wrong++;
            System.out.println(what + ": answered " + got + ", due is " + want);
        }
    }

    /** Ends the test, with exit code 1 if an answer was wrong. */
    static void finish() {
        if (wrong > 0) {
            System.out.println(wrong + " answers are not as due");
            System.exit(1);
        }
    }

    static long packed(String some) {
        long characters = 0;
        for (byte b : some.getBytes(StandardCharsets.ISO_8859_1)) {
            characters = characters << 8 | (b & 255);
        }
        return characters;
    }

    static void typeAll(DiceOdds x, String text) {
        for (int i = 0; i < text.length(); i += 8) {
            String some = text.substring(i, Math.min(i + 8, text.length()));
            same("typing " + text, x.type(packed(some), some.length()), i + some.length());
        }
    }

    static String textOf(DiceOdds x) {
        StringBuilder text = new StringBuilder();
        for (int i = 0; x.character(i) != DiceOdds.NONE; i++) {
            text.append((char) x.character(i));
        }
        return text.toString();
    }

    /** A new object with a program in a slot. */
    static DiceOdds with(String text, int slot) {
        DiceOdds x = new DiceOdds();
        put(x, text, slot);
        return x;
    }

    static void put(DiceOdds x, String text, int slot) {
        x.wipe();
        typeAll(x, text);
        String answer = ask(x, y -> y.read(slot));
        if (answer.startsWith("throws")) {
            same("reading " + text, answer + " at " + x.place(), "a program");
        }
    }

    /** A new object with a program that was run well. */
    static DiceOdds ran(String text, int slot) {
        DiceOdds x = with(text, slot);
        due("run of " + text, x, y -> y.run(slot), 0);
        return x;
    }

    /** The outcomes with their ways, as "outcome:ways outcome:ways". */
    static String result(DiceOdds x, int slot) {
        StringBuilder told = new StringBuilder();
        int n = x.outcomes(slot);
        for (int i = 0; i < n; i++) {
            told.append(i == 0 ? "" : " ").append(x.outcome(slot, i)).append(':').append(x.ways(slot, i));
        }
        return told.toString();
    }

    static String times(String text, int n) {
        return text.repeat(n);
    }
}
