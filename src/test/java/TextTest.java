/** Promises 1 to 4: a new object, type, wipe, character. */
public final class TextTest {
    public static void main(String[] args) {
        newObject();
        typing();
        wrongTyping();
        fullText();
        characters();
        Check.finish();
    }

    private static void newObject() {
        DiceOdds x = new DiceOdds();
        Check.due("character of a new object", x, y -> y.character(0), DiceOdds.NONE);
        Check.due("wipe of a new object", x, y -> y.wipe(), 0);
        Check.due("place of a new object", x, y -> y.place(), DiceOdds.NONE);
        Check.due("states of a new object", x, y -> y.states(), 0);
        for (int slot = 0; slot < 3; slot++) {
            int s = slot;
            Check.due("print of a new object", x, y -> y.print(s), Check.STATE);
            Check.due("run of a new object", x, y -> y.run(s), Check.STATE);
            Check.due("factor of a new object", x, y -> y.factor(s), Check.STATE);
            Check.due("outcomes of a new object", x, y -> y.outcomes(s), Check.STATE);
        }
    }

    private static void typing() {
        DiceOdds x = new DiceOdds();
        Check.due("type", x, y -> y.type(Check.packed("AB"), 2), 2);
        Check.due("type of eight", x, y -> y.type(Check.packed("cdefghij"), 8), 10);
        Check.due("type of the lowest byte alone", x, y -> y.type(Check.packed("xyz"), 1), 11);
        Check.due("type with bytes above that are no characters", x, y -> y.type(-256L + '!', 1), 12);
        Check.due("type of the greatest character", x, y -> y.type('~', 1), 13);
        Check.same("text", Check.textOf(x), "ABcdefghijz!~");
        Check.due("wipe", x, y -> y.wipe(), 13);
        Check.due("wipe again", x, y -> y.wipe(), 0);
        Check.due("type behind wipe", x, y -> y.type('Q', 1), 1);
        Check.same("text behind wipe", Check.textOf(x), "Q");
    }

    private static void wrongTyping() {
        DiceOdds x = new DiceOdds();
        Check.typeAll(x, "A");
        int[] counts = {0, -1, 9, Integer.MIN_VALUE, Integer.MAX_VALUE};
        for (int n : counts) {
            Check.due("type of " + n, x, y -> y.type(Check.packed("AAAAAAAA"), n), DiceOdds.NONE);
        }
        int[] characters = {0, 32, 127, 128, 160, 255};
        for (int c : characters) {
            Check.due("type of character " + c, x, y -> y.type(c, 1), DiceOdds.NONE);
            Check.due("type of character " + c + " first", x, y -> y.type(c * 256L + 'A', 2), DiceOdds.NONE);
            Check.due("type of character " + c + " last", x, y -> y.type('A' * 256L + c, 2), DiceOdds.NONE);
        }
        Check.due("type of a highest byte that is none", x, y -> y.type(-1L, 8), DiceOdds.NONE);
        Check.same("text", Check.textOf(x), "A");
    }

    private static void fullText() {
        DiceOdds x = new DiceOdds();
        Check.typeAll(x, Check.times("12345678", 19));
        Check.due("type up to 159", x, y -> y.type(Check.packed("abcdefg"), 7), 159);
        Check.due("type beyond 160", x, y -> y.type(Check.packed("XY"), 2), DiceOdds.NONE);
        Check.due("type up to 160", x, y -> y.type('Z', 1), 160);
        Check.due("type beyond 160", x, y -> y.type('Z', 1), DiceOdds.NONE);
        Check.due("last character", x, y -> y.character(159), (int) 'Z');
        Check.due("character behind it", x, y -> y.character(160), DiceOdds.NONE);
        Check.due("read of a full text", x, y -> y.read(0), Check.ARGUMENT);
        Check.due("wipe of a full text", x, y -> y.wipe(), 160);
    }

    private static void characters() {
        DiceOdds x = new DiceOdds();
        Check.typeAll(x, "A=1;");
        Check.due("character 1", x, y -> y.character(1), (int) '=');
        int[] none = {-1, 4, Integer.MIN_VALUE, Integer.MAX_VALUE};
        for (int i : none) {
            Check.due("character " + i, x, y -> y.character(i), DiceOdds.NONE);
        }
    }
}
