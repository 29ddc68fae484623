/** Each sentence of the promises 1 to 10 that names an edge, and what the object answers after a refused call. */
public final class CallEdgesTest {
    /** A program of as many characters as there can be, with 23 statements. */
    private static final String LONGEST = Check.times("!111;", 22) + "!" + Check.times("111+", 11) + "-111;";

    public static void main(String[] args) {
        Check.holds("No text, no programs in the slots 0 .. 2.", CallEdgesTest::newObject);
        Check.holds("`NONE = -1000`, `OVER = -1`, `MANY = -2`, `IMPOSSIBLE = -3`", CallEdgesTest::constants);
        typing();
        texts();
        reading();
        printing();
        running();
        Check.finish();
    }

    private static void newObject() {
        DiceOdds x = new DiceOdds();
        Check.due("text", x, y -> y.character(0), DiceOdds.NONE);
        Check.due("characters", x, y -> y.wipe(), 0);
        for (int slot = 0; slot <= 2; slot++) {
            int s = slot;
            Check.due("print of slot " + s, x, y -> y.print(s), Check.STATE);
            Check.due("run of slot " + s, x, y -> y.run(s), Check.STATE);
            Check.due("factor of slot " + s, x, y -> y.factor(s), Check.STATE);
            Check.due("outcomes of slot " + s, x, y -> y.outcomes(s), Check.STATE);
            Check.due("read of slot " + s, x, y -> y.read(s), 0);
            Check.due("factor of slot " + s + " behind it", x, y -> y.factor(s), 1);
        }
        DiceOdds used = Check.used();
        Check.due("another object is not used by it", new DiceOdds(), y -> y.factor(0), Check.STATE);
        Check.due("the used one", used, y -> y.factor(0), 3);
    }

    private static void constants() {
        Check.same("NONE", DiceOdds.NONE, -1000);
        Check.same("OVER", DiceOdds.OVER, -1);
        Check.same("MANY", DiceOdds.MANY, -2);
        Check.same("IMPOSSIBLE", DiceOdds.IMPOSSIBLE, -3);
    }

    // Promise 2

    private static void typing() {
        Check.holds("the lowest n bytes of characters, the highest of them first", CallEdgesTest::lowestBytes);
        Check.holds("how many are typed.", CallEdgesTest::howManyAreTyped);
        Check.holds("when n is not 1 .. 8", CallEdgesTest::howManyAtOnce);
        Check.holds("one is not 33 .. 126", CallEdgesTest::whichCharacters);
        Check.holds("or there would be more than 160", CallEdgesTest::fullText);
    }

    private static void lowestBytes() {
        String eight = "ABCDefg~";
        for (int n = 1; n <= 8; n++) {
            DiceOdds x = new DiceOdds();
            int some = n;
            Check.due("type of " + n, x, y -> y.type(Check.packed(eight), some), n);
            Check.same("text", Check.textOf(x), eight.substring(8 - n));
        }
        DiceOdds x = new DiceOdds();
        Check.due("zeros above", x, y -> y.type('A', 1), 1);
        Check.due("blanks above", x, y -> y.type(Check.packed("       B"), 1), 2);
        Check.due("all bits above", x, y -> y.type(-65536L + Check.packed("CD"), 2), 4);
        Check.due("the least long above", x, y -> y.type(Long.MIN_VALUE + Check.packed("EFGHIJK"), 7), 11);
        Check.same("text", Check.textOf(x), "ABCDEFGHIJK");
    }

    private static void howManyAreTyped() {
        DiceOdds x = new DiceOdds();
        Check.due("first one", x, y -> y.type('A', 1), 1);
        Check.due("one more", x, y -> y.type('A', 1), 2);
        Check.due("eight more", x, y -> y.type(Check.packed("12345678"), 8), 10);
    }

    private static void howManyAtOnce() {
        for (int n = 1; n <= 8; n++) {
            int some = n;
            Check.due("type of " + n, Check.used(), x -> x.type(Check.packed("12345678"), some), 2 + n);
        }
        int[] none = {0, -1, 9, 10, 256, 257, Integer.MIN_VALUE, Integer.MIN_VALUE + 1, Integer.MAX_VALUE};
        for (int n : none) {
            Check.leavesAll("type of " + n, x -> x.type(Check.packed("12345678"), n), DiceOdds.NONE);
        }
    }

    private static void whichCharacters() {
        int[] some = {33, 34, 125, 126};
        for (int c : some) {
            DiceOdds x = new DiceOdds();
            Check.due("type of " + c, x, y -> y.type(c, 1), 1);
            Check.due("character " + c, x, y -> y.character(0), c);
        }
        int[] none = {0, 1, 31, 32, 127, 128, 161, 254, 255};
        for (int c : none) {
            for (int n = 1; n <= 8; n++) {
                for (int at = 0; at < n; at++) {
                    noneAt(c, n, at);
                }
            }
        }
    }

    private static void noneAt(int c, int n, int at) {
        long good = Check.packed("AAAAAAAA");
        long wrong = good & ~(255L << 8 * at) | (long) c << 8 * at;
        Check.leavesAll("type of " + n + " with " + c + " at " + at, x -> x.type(wrong, n), DiceOdds.NONE);
        Check.due("type of those below it", Check.used(), x -> at == 0 ? 2 : x.type(wrong, at), 2 + at);
    }

    private static void fullText() {
        for (int n = 1; n <= 8; n++) {
            filled(159 - n, n, 159);
            filled(160 - n, n, 160);
            filled(161 - n, n, DiceOdds.NONE);
            filled(160, n, DiceOdds.NONE);
        }
    }

    private static void filled(int length, int n, int want) {
        DiceOdds x = new DiceOdds();
        String text = Check.times("abcdefgh", 20).substring(0, length);
        Check.typeAll(x, text);
        Check.due("type of " + n + " behind " + length, x, y -> y.type(Check.packed("12345678"), n), want);
        Check.same("text behind type of " + n + " behind " + length, Check.textOf(x),
            want == DiceOdds.NONE ? text : text + "12345678".substring(8 - n));
        Check.due("how many they are", x, y -> y.wipe(), want == DiceOdds.NONE ? length : want);
        Check.due("typing behind it", x, y -> y.type('A', 1), 1);
    }

    // Promises 3 and 4

    private static void texts() {
        Check.holds("What is typed is gone: how many characters.", CallEdgesTest::wiping);
        Check.holds("Character i of the text; NONE when there is none.", CallEdgesTest::characters);
    }

    private static void wiping() {
        int[] lengths = {0, 1, 8, 159, 160};
        for (int length : lengths) {
            DiceOdds x = new DiceOdds();
            Check.typeAll(x, Check.times("A", length));
            Check.due("wipe of " + length, x, y -> y.wipe(), length);
            Check.due("character behind it", x, y -> y.character(0), DiceOdds.NONE);
            Check.due("wipe behind it", x, y -> y.wipe(), 0);
        }
        Check.leavesAll("wipe, and the same text again", x -> {
            x.wipe();
            return x.type(Check.packed("!A"), 2);
        }, 2);
    }

    private static void characters() {
        String[] texts = {"", "~", "A=", LONGEST};
        for (String text : texts) {
            DiceOdds x = new DiceOdds();
            Check.typeAll(x, text);
            for (int i = 0; i < text.length(); i++) {
                int at = i;
                Check.due("character " + i + " of " + text, x, y -> y.character(at), (int) text.charAt(i));
            }
            int[] none = {-1, text.length(), text.length() + 1, 160, Integer.MIN_VALUE, Integer.MAX_VALUE};
            for (int i : none) {
                Check.due("character " + i + " of " + text, x, y -> y.character(i), DiceOdds.NONE);
            }
        }
        Check.leavesAll("character", x -> x.character(1), (int) 'A');
        Check.leavesAll("character that is none", x -> x.character(2), DiceOdds.NONE);
    }

    // Promises 5 and 6

    private static void reading() {
        Check.holds("The text becomes a slot's program, and is empty then: how many statements it has; the slot has no"
            + " result then.", CallEdgesTest::readWell);
        Check.holds("IllegalArgumentException when there is no such slot (looked at first; the place stays then)",
            CallEdgesTest::readWithoutSlot);
        Check.holds("or it is no program: then the text and the slot stay", CallEdgesTest::readNoProgram);
        Check.holds("the first character that can't stand where it is", CallEdgesTest::firstWrong);
        Check.holds("so an e behind another number of dice than 1", CallEdgesTest::wrongE);
        Check.holds("for a number that is too long, has a zero in front, or is not allowed there, its first digit",
            CallEdgesTest::wrongNumbers);
        Check.holds("for a ninth face the comma in front of it", CallEdgesTest::ninthFace);
        Check.holds("or the text's length.", CallEdgesTest::endedTooEarly);
        Check.holds("The place where a text was wrong latest; NONE before any.", CallEdgesTest::places);
    }

    private static void readWell() {
        for (int slot = 0; slot <= 2; slot++) {
            int s = slot;
            DiceOdds x = Check.ran("A=d6;", slot);
            Check.typeAll(x, "!1;A=2;");
            Check.due("read of slot " + s, x, y -> y.read(s), 2);
            Check.due("text behind it", x, y -> y.character(0), DiceOdds.NONE);
            Check.due("characters behind it", x, y -> y.wipe(), 0);
            Check.due("result behind it", x, y -> y.outcomes(s), Check.STATE);
            Check.due("run behind it", x, y -> y.run(s), 0);
            Check.same("the new result", Check.result(x, s), "2:1");
        }
        Check.good("", 0);
        Check.good(LONGEST, 23);
        DiceOdds x = Check.used();
        x.wipe();
        Check.due("read of no text", x, y -> y.read(0), 0);
        Check.same("the slots", Check.programs(x), " 0  5 B=d3; " + Check.STATE + " B=d3;");
    }

    private static void readWithoutSlot() {
        for (int slot : Check.NO_SLOTS) {
            Check.leavesAll("read of slot " + slot, x -> x.read(slot), Check.ARGUMENT);
            DiceOdds x = new DiceOdds();
            Check.typeAll(x, "A=1;");
            Check.due("read of slot " + slot, x, y -> y.read(slot), Check.ARGUMENT);
            Check.due("place behind it", x, y -> y.place(), DiceOdds.NONE);
            Check.due("read of the text behind it", x, y -> y.read(2), 1);
        }
    }

    private static void readNoProgram() {
        for (int slot = 0; slot <= 2; slot++) {
            DiceOdds x = Check.used();
            String before = Check.told(x).replace("place 3", "place 2");
            int s = slot;
            Check.due("read of slot " + s, x, y -> y.read(s), Check.ARGUMENT);
            Check.same("what the object tells behind it", Check.told(x), before);
            Check.same("the programs behind it", Check.programs(x), Check.programs(Check.used()));
        }
        DiceOdds x = Check.used();
        Check.due("read", x, y -> y.read(0), Check.ARGUMENT);
        Check.due("type of what was missing", x, y -> y.type(';', 1), 3);
        Check.due("read of it", x, y -> y.read(0), 1);
    }

    private static void firstWrong() {
        String signs = "!\"#$%&'()*+,-./0123456789:;<=>?"
            + "@ABCDEFGHIJKLMNOPQRSTUVWXYZ[\\]^_`abcdefghijklmnopqrstuvwxyz{|}~";
        wrongBehind("", signs, "ABCDEF!?*");
        wrongBehind("A", signs, "=");
        wrongBehind("A=", signs, "ABCDEF0123456789d[-(");
        wrongBehind("A=A", signs, "+-*/%<>=;");
        wrongBehind("A=A<A", signs, "+-*/%;");
        wrongBehind("A=(A", signs, "+-*/%<>=)");
        wrongBehind("A=2", signs, "+-*/%<>=;d0123456789");
        wrongBehind("A=d6", signs, "+-*/%<>=;hle");
        wrongBehind("A=2d6", signs, "+-*/%<>=;hl");
        wrongBehind("A=d6h1", signs, "+-*/%<>=;");
        wrongBehind("A=[1", signs, ",]0123456789");
        wrongBehind("A=1;", signs, "ABCDEF!?*");
        wrongBehind("!", signs, "ABCDEF0123456789d[-(");
        wrongBehind("?", signs, "ABCDEF0123456789d[-(");
        wrongBehind("?A", signs, "+-*/%<>={");
        wrongBehind("?A{", signs, "ABCDEF!?*}");
        wrongBehind("?A{}", signs, "ABCDEF!?*:");
        wrongBehind("?A{}:", signs, "{");
        wrongBehind("?A{}:{}", signs, "ABCDEF!?*");
        wrongBehind("*2", signs, "{0");
        wrongBehind("*2{}", signs, "ABCDEF!?*");
    }

    /** Signs that can stand behind a beginning (none of which ends a program here) are not where the text is wrong. */
    private static void wrongBehind(String beginning, String signs, String canStand) {
        for (char sign : signs.toCharArray()) {
            boolean isNumber = beginning.endsWith("d6") || beginning.endsWith("h1") || beginning.endsWith("*2");
            if (canStand.indexOf(sign) < 0 && !(isNumber && Character.isDigit(sign))) {
                Check.bad(beginning + sign, beginning.length());
            } else if (canStand.indexOf(sign) >= 0 && !Character.isDigit(sign)) {
                stands(beginning + sign);
            }
        }
    }

    private static void stands(String text) {
        DiceOdds x = new DiceOdds();
        Check.typeAll(x, text + "~");
        Check.due("read of " + text + "~", x, y -> y.read(0), Check.ARGUMENT);
        Check.due("place in " + text + "~", x, y -> y.place(), text.length());
    }

    private static void wrongE() {
        Check.good("A=d6e1;", 1);
        Check.good("A=1d6e1;", 1);
        for (int n = 2; n <= 6; n++) {
            Check.bad("A=" + n + "d6e1;", 5);
            Check.bad("A=" + n + "d6e9;", 5);
            Check.bad("A=" + n + "d6e", 5);
            Check.bad("A=" + n + "d20e1;", 6);
        }
    }

    private static void wrongNumbers() {
        String[] tooLong = {"1000", "9999", "10000", "00000"};
        String[] zero = {"00", "01", "010"};
        for (String number : tooLong) {
            wrongNumber(number);
        }
        for (String number : zero) {
            wrongNumber(number);
        }
        Check.bad("A=0d6;", 2);
        Check.bad("A=7d6;", 2);
        Check.bad("A=10d6;", 2);
        Check.bad("A=d1;", 3);
        Check.bad("A=d21;", 3);
        Check.bad("A=2d6h0;", 6);
        Check.bad("A=2d6l3;", 6);
        Check.bad("A=2d6h10;", 6);
        Check.bad("A=d6e0;", 5);
        Check.bad("A=d6e4;", 5);
        Check.bad("A=d6e10;", 5);
        Check.bad("*21{}", 1);
        Check.bad("*100{}", 1);
    }

    private static void wrongNumber(String number) {
        Check.bad("A=" + number + ";", 2);
        Check.bad("A=" + number, 2);
        Check.bad("A=" + number + "d6;", 2);
        Check.bad("A=d" + number + ";", 3);
        Check.bad("A=2d6h" + number + ";", 6);
        Check.bad("A=2d6l" + number + ";", 6);
        Check.bad("A=d6e" + number + ";", 5);
        Check.bad("A=[" + number + "];", 3);
        Check.bad("A=[0," + number + "];", 5);
        Check.bad("*" + number + "{}", 1);
        Check.bad("A=1;*2{!-(A<" + number + ");}", 12);
    }

    private static void ninthFace() {
        Check.good("A=[1,1,1,1,1,1,1];", 1);
        Check.good("A=[1,1,1,1,1,1,1,1];", 1);
        Check.bad("A=[1,1,1,1,1,1,1,1,1];", 18);
        Check.bad("A=[1,1,1,1,1,1,1,1,", 18);
        Check.bad("A=[10,100,1,1,1,1,1,1,1];", 21);
        Check.bad("A=[1]+[1,1,1,1,1,1,1,1,1];", 22);
    }

    private static void endedTooEarly() {
        String whole = "A=-(2d6h1+[1,2]);?A<1{!1;}:{*3{B=d6e1;}}";
        Check.good(whole, 5);
        for (int length = 1; length < whole.length(); length++) {
            if (length != 17 && length != 26) {
                Check.bad(whole.substring(0, length), length);
            }
        }
        Check.good(whole.substring(0, 17), 1);
        Check.good(whole.substring(0, 26), 3);
        Check.good(LONGEST, 23);
        Check.bad(LONGEST.substring(0, 159), 159);
        Check.bad(LONGEST.substring(0, 159) + "+", 160);
    }

    private static void places() {
        DiceOdds x = new DiceOdds();
        Check.due("place before any", x, y -> y.place(), DiceOdds.NONE);
        Check.put(x, "A=1;", 0);
        Check.due("place behind a program", x, y -> y.place(), DiceOdds.NONE);
        String[] texts = {";", "A;", LONGEST.substring(0, 159) + "+", "!;"};
        int[] wrongAt = {0, 1, 160, 1};
        for (int i = 0; i < texts.length; i++) {
            x.wipe();
            Check.typeAll(x, texts[i]);
            Check.due("read of " + texts[i], x, y -> y.read(0), Check.ARGUMENT);
            Check.due("place in " + texts[i], x, y -> y.place(), wrongAt[i]);
            Check.due("place again", x, y -> y.place(), wrongAt[i]);
        }
        x.wipe();
        Check.due("place behind wipe", x, y -> y.place(), 1);
        Check.due("read of no text", x, y -> y.read(1), 0);
        Check.due("place behind a good read", x, y -> y.place(), 1);
        Check.due("print", x, y -> y.print(0), 4);
        Check.due("run", x, y -> y.run(0), 0);
        Check.due("place behind print and run", x, y -> y.place(), 1);
        Check.leavesAll("place", y -> y.place(), 3);
    }

    // Promise 7

    private static void printing() {
        Check.holds("round an operation with two sides that is behind a minus sign", CallEdgesTest::behindMinus);
        Check.holds("is the first side of another one and binds less tightly (or both compare), or is the second side"
            + " and does not bind more tightly ('<' '>' '=' bind least, '*' '/' '%' most)", CallEdgesTest::sides);
        Check.holds("one die without a number in front", CallEdgesTest::oneDie);
        Check.holds("no second program if it is empty", CallEdgesTest::emptySecondProgram);
        Check.holds("how many characters. IllegalArgumentException when there is no such slot; IllegalStateException"
            + " when it has no program.\n\n## Promise 8", CallEdgesTest::printedCharacters);
    }

    private static void printed(String text, String want) {
        DiceOdds x = Check.with(text, 2);
        Check.due("print of " + text, x, y -> y.print(2), want.length());
        Check.same("text printed of " + text, Check.textOf(x), want);
        String statements = Check.ask(Check.typed(text), y -> y.read(0));
        Check.due("read of what was printed of " + text, x, y -> y.read(0), statements);
    }

    private static void behindMinus() {
        for (char sign : "+-*/%<>=".toCharArray()) {
            printed("A=-(A" + sign + "B);", "A=-(A" + sign + "B);");
            printed("A=-((A" + sign + "B));", "A=-(A" + sign + "B);");
            printed("A=-(-(A" + sign + "B));", "A=--(A" + sign + "B);");
            printed("A=(-A)" + sign + "B;", "A=-A" + sign + "B;");
            printed("A=A" + sign + "(-B);", "A=A" + sign + "-B;");
        }
        String[] single = {"A", "7", "d6", "2d6", "2d6h1", "d6e1", "[1,2]", "-A"};
        for (String leaf : single) {
            printed("A=-(" + leaf + ");", "A=-" + leaf + ";");
            printed("A=(" + leaf + ");", "A=" + leaf + ";");
        }
    }

    private static void sides() {
        String[] binding = {"<>=", "+-", "*/%"};
        for (int one = 0; one < 3; one++) {
            for (int two = 0; two < 3; two++) {
                for (char outer : binding[one].toCharArray()) {
                    for (char inner : binding[two].toCharArray()) {
                        side(outer, inner, two < one || one == 0 && two == 0, two <= one);
                    }
                }
            }
        }
    }

    private static void side(char outer, char inner, boolean firstBracketed, boolean secondBracketed) {
        String operation = "B" + inner + "C";
        String bracketed = "(" + operation + ")";
        printed("A=" + bracketed + outer + "D;", "A=" + (firstBracketed ? bracketed : operation) + outer + "D;");
        printed("A=D" + outer + bracketed + ";", "A=D" + outer + (secondBracketed ? bracketed : operation) + ";");
    }

    private static void oneDie() {
        printed("A=d6;", "A=d6;");
        printed("A=1d6;", "A=d6;");
        printed("A=2d6;", "A=2d6;");
        printed("A=6d6;", "A=6d6;");
        printed("A=1d6h1;", "A=d6h1;");
        printed("A=1d6l1;", "A=d6l1;");
        printed("A=1d6e1;", "A=d6e1;");
        printed("A=2d6h2;", "A=2d6h2;");
        printed("A=1;", "A=1;");
    }

    private static void emptySecondProgram() {
        printed("?A{}", "?A{}");
        printed("?A{}:{}", "?A{}");
        printed("?A{}:{!1;}", "?A{}:{!1;}");
        printed("?A{?B{}:{}}:{?C{}:{}}", "?A{?B{}}:{?C{}}");
        printed("*0{}", "*0{}");
    }

    private static void printedCharacters() {
        printed("", "");
        printed("!0;", "!0;");
        printed(LONGEST, LONGEST);
        printed("A=[0,10,999];", "A=[0,10,999];");
        DiceOdds x = Check.used();
        Check.due("print", x, y -> y.print(0), 10);
        Check.same("the typed text is gone", Check.textOf(x), "A=[4,4,7];");
        Check.same("the result stays", Check.result(x, 0), "4:2 7:1");
        for (int slot : Check.NO_SLOTS) {
            Check.leavesAll("print of slot " + slot, y -> y.print(slot), Check.ARGUMENT);
        }
        Check.leavesAll("print of a slot without program", y -> y.print(2), Check.STATE);
        DiceOdds full = Check.with(LONGEST, 0);
        Check.due("print of the longest", full, y -> y.print(0), 160);
        Check.due("type behind it", full, y -> y.type('A', 1), DiceOdds.NONE);
    }

    // Promises 8 to 10

    private static void running() {
        Check.holds("0 when it has a result then; OVER, MANY or IMPOSSIBLE, and no result.", CallEdgesTest::runs);
        Check.holds("Runs a slot's program", CallEdgesTest::runsOfNoProgram);
        Check.holds("in the beginning or behind a statement, for the states that it was done for",
            CallEdgesTest::greatestStates);
        Check.holds("(not counting the one that decided for OVER or MANY)", CallEdgesTest::statesWithoutDecider);
        Check.holds("0 before any.", CallEdgesTest::statesBeforeAny);
        Check.holds("The factor of a slot's program. Exceptions as for a run.", CallEdgesTest::factors);
    }

    private static void runs() {
        String[] texts = {"A=d2;", "A=999+1;", "A=d20*d20;", "!0;"};
        int[] want = {0, DiceOdds.OVER, DiceOdds.MANY, DiceOdds.IMPOSSIBLE};
        for (int i = 0; i < texts.length; i++) {
            for (int slot = 0; slot <= 2; slot++) {
                int s = slot;
                DiceOdds x = Check.ran("A=5;", slot);
                Check.put(x, texts[i], slot);
                Check.due("run of " + texts[i], x, y -> y.run(s), want[i]);
                Check.same("result of " + texts[i], Check.result(x, s), i == 0 ? "1:1 2:1" : Check.STATE);
                Check.due("total of " + texts[i], x, y -> y.total(s), i == 0 ? 2 : Check.STATE);
                Check.due("run again of " + texts[i], x, y -> y.run(s), want[i]);
                Check.same("result again of " + texts[i], Check.result(x, s), i == 0 ? "1:1 2:1" : Check.STATE);
                Check.due("print of " + texts[i], x, y -> y.print(s), texts[i].length());
            }
        }
        DiceOdds x = Check.used();
        Check.due("run of another slot", x, y -> y.run(1), 0);
        Check.same("the result of slot 0 stays", Check.result(x, 0), "4:2 7:1");
        Check.same("the text stays", Check.textOf(x), "!A");
    }

    private static void runsOfNoProgram() {
        for (int slot : Check.NO_SLOTS) {
            Check.leavesAll("run of slot " + slot, x -> x.run(slot), Check.ARGUMENT);
        }
        Check.leavesAll("run of a slot without program", x -> x.run(2), Check.STATE);
    }

    private static void greatestStates() {
        Check.ends("", 0, 1);
        Check.ends("A=1;", 0, 1);
        Check.ends("!0;", DiceOdds.IMPOSSIBLE, 1);
        Check.ends("A=d2;", 0, 2);
        Check.ends("A=d8;B=d8;", 0, 64);
        Check.ends("A=d9;A=0;", 0, 9);
        Check.ends("A=0;A=d9;", 0, 9);
        Check.ends("A=d6;?A<4{B=d8;B=0;}", 0, 24);
        Check.ends("A=d6;?A<4{}:{B=d8;B=0;}", 0, 24);
        Check.ends("A=d6;?A<4{B=d8;}", 0, 27);
        Check.ends("A=d6;?A<4{B=d8;}:{B=d9;}", 0, 51);
        Check.ends("A=d6;?A<4{B=d8;B=0;}:{B=d9;B=0;}", 0, 27);
        Check.ends("*2{A=d9;A=0;}", 0, 9);
        Check.ends("*3{A=A+d2;}", 0, 4);
        Check.ends("?d2-1{A=d8;}:{A=d8;}", 0, 8);
    }

    private static void statesWithoutDecider() {
        Check.ends("A=d6;B=1/(A-6);", DiceOdds.OVER, 6);
        Check.ends("A=d6;B=d20;", DiceOdds.MANY, 6);
        Check.ends("A=6d20;", DiceOdds.MANY, 1);
        Check.ends("A=d20/0;", DiceOdds.OVER, 1);
        Check.ends("A=d6;?A>1{B=d9;B=1/0;}", DiceOdds.OVER, 45);
        Check.ends("A=d6;?A>1{B=d9;}:{B=1/0;}", DiceOdds.OVER, 45);
        Check.ends("A=d6;?A>3{B=d20;}:{B=d5;}", DiceOdds.MANY, 60);
        Check.ends("A=d6;?A>3{B=d5;}:{B=d20;}", DiceOdds.MANY, 60);
        Check.ends("*2{A=A*9+d9;}", DiceOdds.MANY, 9);
    }

    private static void statesBeforeAny() {
        DiceOdds x = new DiceOdds();
        Check.due("states before any run", x, y -> y.states(), 0);
        Check.due("a run that is none", x, y -> y.run(0), Check.STATE);
        Check.due("another", x, y -> y.run(3), Check.ARGUMENT);
        Check.due("states behind them", x, y -> y.states(), 0);
        Check.put(x, "A=d6;", 0);
        Check.due("states behind a read", x, y -> y.states(), 0);
        Check.due("run", x, y -> y.run(0), 0);
        Check.due("states behind it", x, y -> y.states(), 6);
        Check.put(x, "A=1/0;", 1);
        Check.due("states behind another read", x, y -> y.states(), 6);
        Check.due("run that is OVER", x, y -> y.run(1), DiceOdds.OVER);
        Check.due("states of the latest run", x, y -> y.states(), 1);
        Check.leavesAll("states", y -> y.states(), 2);
    }

    private static void factors() {
        for (int slot : Check.NO_SLOTS) {
            Check.leavesAll("factor of slot " + slot, x -> x.factor(slot), Check.ARGUMENT);
        }
        Check.leavesAll("factor of a slot without program", x -> x.factor(2), Check.STATE);
        Check.leavesAll("factor of a program with a result", x -> x.factor(0), 3);
        Check.leavesAll("factor of a program without one", x -> x.factor(1), 3);
        Check.factor("", 1);
        Check.factor("A=" + Check.ALL_COINS + ";", Check.MOST_FALLS);
        Check.factor("A=1/0;", 1);
    }
}
