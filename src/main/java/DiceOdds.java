import java.util.Arrays;

/**
 * Odds of games: programs with dice are read from text, and all that can come of them is worked
 * out exactly. DOC.md tells every call; the words of its terms are used here as it uses them.
 */
public final class DiceOdds {
    public static final int NONE = -1000;
    public static final int OVER = -1;
    public static final int MANY = -2;
    public static final int IMPOSSIBLE = -3;

    private static final int DONE = 0;
    private static final int SLOTS = 3;
    private static final int MOST_CHARACTERS = 160;
    private static final int MOST_AT_ONCE = 8;
    private static final int LEAST_CHARACTER = 33;
    private static final int GREATEST_CHARACTER = 126;
    private static final int MOST_STATEMENTS = 24;
    private static final int MOST_BRACES = 4;
    private static final int MOST_BRACKETS = 5;
    private static final int MOST_LEAVES = 40;
    private static final int MOST_DIGITS = 3;
    private static final int MOST_DICE = 6;
    private static final int LEAST_SIDES = 2;
    private static final int MOST_SIDES = 20;
    private static final int MOST_ROLLS_MORE = 3;
    private static final int MOST_FACES = 8;
    private static final int MOST_TIMES = 20;
    private static final int MOST_STATES = 64;
    private static final int VARIABLES = 6;
    private static final int LIMIT = 999;
    private static final int OUTSIDE = LIMIT + 1;
    private static final int ALL_VALUES = 2 * LIMIT + 1;
    private static final int MILLION = 1000000;
    private static final int MOST_WHOLE = 1000;
    private static final long MOST_FALLS = 1L << 31;
    /** Stands for every factor that is too much for a program, so that no long overflows. */
    private static final long TOO_MANY_FALLS = MOST_FALLS + 1;

    /** How tightly an expression binds: comparisons least, what is no operation with two sides most. */
    private static final int COMPARISON = 0;
    private static final int SUM = 1;
    private static final int PRODUCT = 2;
    private static final int TIGHTEST = 3;

    /** Stands for the text's end, which no typed character does. */
    private static final char END = 0;
    /** Dice of which none is left out and none is rolled again. */
    private static final char ALL = 'a';

    private final StringBuilder text = new StringBuilder();
    private final Slot[] slots = new Slot[SLOTS];
    private final Parser parser = new Parser();
    private final Bench bench = new Bench();

    public DiceOdds() {
        for (int i = 0; i < SLOTS; i++) {
            slots[i] = new Slot();
        }
    }

    public int type(long characters, int n) {
        if (n < 1 || n > MOST_AT_ONCE || text.length() + n > MOST_CHARACTERS) {
            return NONE;
        }
        for (int i = 0; i < n; i++) {
            int next = byteOf(characters, i);
            if (next < LEAST_CHARACTER || next > GREATEST_CHARACTER) {
                return NONE;
            }
        }
        for (int i = n - 1; i >= 0; i--) {
            text.append((char) byteOf(characters, i));
        }
        return text.length();
    }

    public int wipe() {
        int gone = text.length();
        text.setLength(0);
        return gone;
    }

    public int character(int i) {
        return i >= 0 && i < text.length() ? text.charAt(i) : NONE;
    }

    public int read(int slot) throws IllegalArgumentException {
        Slot chosen = slotAt(slot);
        Statement first = parser.wholeProgram(text);
        chosen.takeProgram(first);
        text.setLength(0);
        return parser.statements;
    }

    public int place() {
        return parser.wrongPlace;
    }

    public int print(int slot) throws IllegalArgumentException, IllegalStateException {
        Slot chosen = withProgram(slot);
        text.setLength(0);
        Statement.writeAll(chosen.first, text);
        return text.length();
    }

    public int run(int slot) throws IllegalArgumentException, IllegalStateException {
        Slot chosen = withProgram(slot);
        chosen.dropResult();
        States states = bench.begin();
        int end = Statement.doAll(chosen.first, states, bench, 0);
        if (end != DONE) {
            return end;
        }
        if (states.size == 0) {
            return IMPOSSIBLE;
        }
        chosen.takeResult(states);
        return DONE;
    }

    public int states() {
        return bench.mostStates;
    }

    public long factor(int slot) throws IllegalArgumentException, IllegalStateException {
        return Statement.fallsOfAll(withProgram(slot).first);
    }

    public int outcomes(int slot) throws IllegalArgumentException, IllegalStateException {
        return withResult(slot).outcomes;
    }

    public int outcome(int slot, int i)
            throws IllegalArgumentException, IllegalStateException, IndexOutOfBoundsException {
        Slot chosen = withOutcome(slot, i);
        return chosen.outcome[i];
    }

    public long ways(int slot, int i)
            throws IllegalArgumentException, IllegalStateException, IndexOutOfBoundsException {
        Slot chosen = withOutcome(slot, i);
        return chosen.ways[i];
    }

    public long total(int slot) throws IllegalArgumentException, IllegalStateException {
        return withResult(slot).total;
    }

    public long moment(int slot, int k) throws IllegalArgumentException, IllegalStateException {
        allow(k == 1 || k == 2);
        Slot chosen = withResult(slot);
        long sum = 0;
        for (int i = 0; i < chosen.outcomes; i++) {
            long value = chosen.outcome[i];
            sum += chosen.ways[i] * (k == 1 ? value : value * value);
        }
        return sum;
    }

    public int millionths(int slot, int i)
            throws IllegalArgumentException, IllegalStateException, IndexOutOfBoundsException {
        Slot chosen = withOutcome(slot, i);
        return chosen.total > 1 ? halfToEven(chosen.ways[i] * MILLION, chosen.total) : MILLION;
    }

    public int percentile(int slot, int part, int whole) throws IllegalArgumentException, IllegalStateException {
        allow(whole >= 1 && whole <= MOST_WHOLE && part >= 0 && part <= whole);
        Slot chosen = withResult(slot);
        int i = 0;
        long upTo = chosen.ways[0];
        while (i < chosen.outcomes - 1 && upTo * whole < part * chosen.total) {
            i++;
            upTo += chosen.ways[i];
        }
        return chosen.outcome[i];
    }

    public int sample(int slot, long p)
            throws IllegalArgumentException, IllegalStateException, IndexOutOfBoundsException {
        Slot chosen = withResult(slot);
        if (p < 0 || p >= chosen.total) {
            throw new IndexOutOfBoundsException("there is no such way");
        }
        int i = 0;
        long upTo = chosen.ways[0];
        while (i < chosen.outcomes - 1 && upTo <= p) {
            i++;
            upTo += chosen.ways[i];
        }
        return chosen.outcome[i];
    }

    public long compare(int slot, int other, int sign) throws IllegalArgumentException, IllegalStateException {
        allow(sign >= -1 && sign <= 1 && isSlot(slot) && isSlot(other));
        Slot one = withResult(slot);
        Slot two = withResult(other);
        long pairs = 0;
        for (int i = 0; i < one.outcomes; i++) {
            for (int j = 0; j < two.outcomes; j++) {
                if (Integer.signum(one.outcome[i] - two.outcome[j]) == sign) {
                    pairs += one.ways[i] * two.ways[j];
                }
            }
        }
        return pairs;
    }

    private static boolean isSlot(int slot) {
        return slot >= 0 && slot < SLOTS;
    }

    private static void allow(boolean allowed) {
        if (!allowed) {
            throw new IllegalArgumentException("an argument is not allowed");
        }
    }

    private Slot slotAt(int slot) {
        if (!isSlot(slot)) {
            throw new IllegalArgumentException("there is no such slot");
        }
        return slots[slot];
    }

    private Slot withProgram(int slot) {
        Slot chosen = slotAt(slot);
        if (!chosen.hasProgram) {
            throw new IllegalStateException("the slot has no program");
        }
        return chosen;
    }

    private Slot withResult(int slot) {
        Slot chosen = slotAt(slot);
        if (chosen.outcomes == 0) {
            throw new IllegalStateException("the slot has no result");
        }
        return chosen;
    }

    private Slot withOutcome(int slot, int i) {
        Slot chosen = withResult(slot);
        if (i < 0 || i >= chosen.outcomes) {
            throw new IndexOutOfBoundsException("there is no such outcome");
        }
        return chosen;
    }

    private static int byteOf(long characters, int i) {
        return (int) (characters >> (8 * i)) & 255;
    }

    private static int halfToEven(long amount, long divisor) {
        if (divisor <= 0) {
            return 0;
        }
        long rounded = amount / divisor;
        long twiceLeft = 2 * (amount - rounded * divisor);
        if (twiceLeft > divisor || twiceLeft == divisor && rounded % 2 == 1) {
            rounded++;
        }
        return (int) rounded;
    }

    private static long product(long one, long two) {
        return Math.min(one * two, TOO_MANY_FALLS);
    }

    private static long power(long base, int times) {
        long falls = 1;
        for (int i = 0; i < times; i++) {
            falls = Math.min(falls * base, TOO_MANY_FALLS);
        }
        return falls;
    }

    private static long commonDivisor(long one, long two) {
        long greater = one;
        long lesser = two;
        // Euclid's steps at least halve the numbers every other time, so that 128 are enough for every long.
        for (int i = 0; i < 128 && lesser != 0; i++) {
            long left = greater % lesser;
            greater = lesser;
            lesser = left;
        }
        return greater;
    }

    private static long quotient(long amount, long divisor) {
        return divisor > 1 ? amount / divisor : amount;
    }

    private static long commonMultiple(long one, long two) {
        return product(quotient(one, commonDivisor(one, two)), two);
    }

    private static boolean isName(char sign) {
        return sign >= 'A' && sign < 'A' + VARIABLES;
    }

    private static boolean isDigit(char sign) {
        return sign >= '0' && sign <= '9';
    }

    /** How tightly the operation of a sign binds, NONE if it is no sign of an operation with two sides. */
    private static int bindingOf(char sign) {
        switch (sign) {
            case '<':
            case '>':
            case '=':
                return COMPARISON;
            case '+':
            case '-':
                return SUM;
            case '*':
            case '/':
            case '%':
                return PRODUCT;
            default:
                return NONE;
        }
    }

    /** A slot: its program, if it has one, and the result of it, if there are outcomes. */
    private static final class Slot {
        private final int[] outcome = new int[MOST_STATES];
        private final long[] ways = new long[MOST_STATES];
        private boolean hasProgram = false;
        private Statement first = null;
        private int outcomes = 0;
        private long total = 0;

        void takeProgram(Statement program) {
            hasProgram = true;
            first = program;
            dropResult();
        }

        void dropResult() {
            outcomes = 0;
            total = 0;
        }

        void takeResult(States states) {
            for (int i = 0; i < states.size; i++) {
                addWays(states.valueOf(i, 0), states.ways[i]);
            }
            divideByWhatIsCommon();
        }

        private void addWays(int value, long more) {
            int at = outcomes;
            while (at > 0 && outcome[at - 1] >= value) {
                at--;
            }
            if (at < outcomes && outcome[at] == value) {
                ways[at] += more;
            } else if (outcomes < MOST_STATES) {
                System.arraycopy(outcome, at, outcome, at + 1, outcomes - at);
                System.arraycopy(ways, at, ways, at + 1, outcomes - at);
                outcome[at] = value;
                ways[at] = more;
                outcomes++;
            }
        }

        private void divideByWhatIsCommon() {
            long common = 0;
            for (int i = 0; i < outcomes; i++) {
                common = commonDivisor(common, ways[i]);
            }
            for (int i = 0; i < outcomes; i++) {
                ways[i] = quotient(ways[i], common);
                total += ways[i];
            }
        }
    }

    /** Makes a tree of a text, or throws IllegalArgumentException and keeps the place where the text was wrong. */
    private static final class Parser {
        private final char[] text = new char[MOST_CHARACTERS];
        private final int[] faces = new int[MOST_FACES];
        private int length = 0;
        private int at = 0;
        private int statements = 0;
        private int leaves = 0;
        private int wrongPlace = NONE;

        /** The first statement of the program, null if it has none. */
        Statement wholeProgram(StringBuilder typed) {
            begin(typed);
            Statement first = program(0);
            demand(at == length, at);
            demand(Statement.fallsOfAll(first) <= MOST_FALLS, length);
            return first;
        }

        private void begin(StringBuilder typed) {
            length = Math.min(typed.length(), MOST_CHARACTERS);
            for (int i = 0; i < length; i++) {
                text[i] = typed.charAt(i);
            }
            at = 0;
            statements = 0;
            leaves = 0;
        }

        private void demand(boolean right, int where) {
            if (!right) {
                wrongPlace = where;
                throw new IllegalArgumentException("the text is no program");
            }
        }

        private char peek() {
            return at < length ? text[at] : END;
        }

        private void pass(char sign) {
            demand(peek() == sign, at);
            at++;
        }

        private Statement program(int depth) {
            Statement first = null;
            Statement last = null;
            for (int i = 0; i <= MOST_STATEMENTS && peek() != END && peek() != '}'; i++) {
                Statement next = statement(depth);
                if (last == null) {
                    first = next;
                } else {
                    last.next = next;
                }
                last = next;
            }
            return first;
        }

        private Statement statement(int depth) {
            char sign = peek();
            demand(isName(sign) || sign == '!' || sign == '?' || sign == '*', at);
            demand(statements < MOST_STATEMENTS, at);
            statements++;
            at++;
            if (sign == '?') {
                return choice(depth);
            }
            if (sign == '*') {
                return repetition(depth);
            }
            if (sign != '!') {
                pass('=');
            }
            Expression expression = expression(COMPARISON, 0);
            pass(';');
            return new Statement(sign, expression, 0, null, null);
        }

        private Statement choice(int depth) {
            Expression expression = expression(COMPARISON, 0);
            Statement first = inBraces(depth);
            Statement second = null;
            if (peek() == ':') {
                at++;
                second = inBraces(depth);
            }
            return new Statement('?', expression, 0, first, second);
        }

        private Statement repetition(int depth) {
            int times = number(0, MOST_TIMES);
            return new Statement('*', new Plain(NONE, times), times, inBraces(depth), null);
        }

        private Statement inBraces(int depth) {
            demand(depth < MOST_BRACES, at);
            pass('{');
            Statement first = program(depth + 1);
            pass('}');
            return first;
        }

        /** An expression whose operations, outside of round brackets, bind at least so tightly. */
        private Expression expression(int binding, int depth) {
            if (binding >= TIGHTEST) {
                return operand(depth);
            }
            Expression first = expression(binding + 1, depth);
            int most = binding == COMPARISON ? 1 : MOST_LEAVES;
            for (int i = 0; i < most && bindingOf(peek()) == binding; i++) {
                char sign = peek();
                at++;
                first = new Operation(sign, first, expression(binding + 1, depth));
            }
            return first;
        }

        private Expression operand(int depth) {
            char sign = peek();
            if (sign == '-' || sign == '(') {
                demand(depth < MOST_BRACKETS, at);
                at++;
                return sign == '-' ? new Minus(operand(depth + 1)) : inBrackets(depth + 1);
            }
            demand(isName(sign) || isDigit(sign) || sign == 'd' || sign == '[', at);
            demand(leaves < MOST_LEAVES, at);
            leaves++;
            if (isName(sign)) {
                at++;
                return new Plain(sign - 'A', 0);
            }
            if (isDigit(sign)) {
                return numberOrDice();
            }
            return sign == 'd' ? dice(1) : row();
        }

        private Expression inBrackets(int depth) {
            Expression inner = expression(COMPARISON, depth);
            pass(')');
            return inner;
        }

        private Expression numberOrDice() {
            int start = at;
            int value = number(0, LIMIT);
            if (peek() != 'd') {
                return new Plain(NONE, value);
            }
            demand(value >= 1 && value <= MOST_DICE, start);
            return dice(value);
        }

        private Expression dice(int count) {
            pass('d');
            int sides = number(LEAST_SIDES, MOST_SIDES);
            char pick = peek();
            if (pick == 'e') {
                demand(count == 1, at);
                at++;
                return new Dice(count, sides, pick, number(1, MOST_ROLLS_MORE));
            }
            if (pick == 'h' || pick == 'l') {
                at++;
                return new Dice(count, sides, pick, number(1, count));
            }
            return new Dice(count, sides, ALL, count);
        }

        private Expression row() {
            pass('[');
            faces[0] = number(0, LIMIT);
            int size = 1;
            while (size < MOST_FACES && peek() == ',') {
                at++;
                faces[size] = number(0, LIMIT);
                size++;
            }
            pass(']');
            return new Row(Arrays.copyOf(faces, size));
        }

        private int number(int least, int most) {
            int start = at;
            int value = 0;
            for (int i = 0; i < MOST_CHARACTERS && isDigit(peek()); i++) {
                value = Math.min(value * 10 + peek() - '0', OUTSIDE);
                at++;
            }
            int digits = at - start;
            demand(digits > 0 && digits <= MOST_DIGITS, start);
            demand(digits == 1 || text[start] != '0', start);
            demand(value >= least && value <= most, start);
            return value;
        }
    }

    /** A statement, and the one behind it in its program: a program is its first statement, null if it has none. */
    private static final class Statement {
        private final char sign;
        private final Expression expression;
        private final int times;
        private final Statement first;
        private final Statement second;
        private final long falls;
        private final long firstScale;
        private final long secondScale;
        private Statement next = null;

        /** The sign is a name, '!', '?' or '*'; what is behind a '*' is told as an expression, too. */
        Statement(char sign, Expression expression, int times, Statement first, Statement second) {
            this.sign = sign;
            this.expression = expression;
            this.times = times;
            this.first = first;
            this.second = second;
            long ofFirst = fallsOfAll(first);
            long ofSecond = fallsOfAll(second);
            long both = commonMultiple(ofFirst, ofSecond);
            firstScale = quotient(both, ofFirst);
            secondScale = quotient(both, ofSecond);
            falls = sign == '*' ? power(ofFirst, times) : product(expression.falls, both);
        }

        /** The factor of a program. */
        private static long fallsOfAll(Statement program) {
            long falls = 1;
            for (Statement s = program; s != null; s = s.next) {
                falls = product(falls, s.falls);
            }
            return falls;
        }

        private static void writeAll(Statement program, StringBuilder text) {
            for (Statement s = program; s != null; s = s.next) {
                s.write(text);
            }
        }

        private void write(StringBuilder text) {
            text.append(sign);
            if (isName(sign)) {
                text.append('=');
            }
            expression.write(text);
            if (sign != '?' && sign != '*') {
                text.append(';');
                return;
            }
            writeInBraces(first, text);
            if (second != null) {
                text.append(':');
                writeInBraces(second, text);
            }
        }

        private static void writeInBraces(Statement program, StringBuilder text) {
            text.append('{');
            writeAll(program, text);
            text.append('}');
        }

        /** Makes of the states those behind a program: DONE, or what it was that ended the run, OVER or MANY. */
        private static int doAll(Statement program, States states, Bench bench, int depth) {
            int end = DONE;
            for (Statement s = program; s != null && end == DONE && states.size > 0; s = s.next) {
                end = s.doOnce(states, bench, depth);
                if (end == DONE) {
                    bench.mostStates = Math.max(bench.mostStates, states.size);
                }
            }
            return end;
        }

        private int doOnce(States states, Bench bench, int depth) {
            switch (sign) {
                case '!':
                    return keep(states, bench);
                case '?':
                    return choose(states, bench, depth);
                case '*':
                    return repeat(states, bench, depth);
                default:
                    return assign(states, bench);
            }
        }

        private int assign(States states, Bench bench) {
            States after = bench.after;
            after.clear();
            boolean fits = true;
            for (int i = 0; i < states.size; i++) {
                if (!bench.workOut(expression, states, i)) {
                    return OVER;
                }
                // The states behind are worked out even if there are too many already: OVER comes before MANY.
                fits = fits && bench.giveTo(after, states, i, sign - 'A');
            }
            if (!fits) {
                return MANY;
            }
            states.swapWith(after);
            return DONE;
        }

        private int keep(States states, Bench bench) {
            States after = bench.after;
            after.clear();
            for (int i = 0; i < states.size; i++) {
                if (!bench.workOut(expression, states, i)) {
                    return OVER;
                }
                after.append(states, i, bench.waysOfYes());
            }
            states.swapWith(after);
            return DONE;
        }

        private int choose(States states, Bench bench, int depth) {
            if (depth < 0 || depth >= MOST_BRACES) {
                return MANY;
            }
            States yes = bench.yes[depth];
            States no = bench.no[depth];
            yes.clear();
            no.clear();
            for (int i = 0; i < states.size; i++) {
                if (!bench.workOut(expression, states, i)) {
                    return OVER;
                }
                long waysOfYes = bench.waysOfYes();
                yes.append(states, i, waysOfYes);
                no.append(states, i, expression.falls - waysOfYes);
            }
            int end = doAll(first, yes, bench, depth + 1);
            if (end == DONE) {
                end = doAll(second, no, bench, depth + 1);
            }
            if (end != DONE) {
                return end;
            }
            states.clear();
            return states.join(yes, firstScale) && states.join(no, secondScale) ? DONE : MANY;
        }

        private int repeat(States states, Bench bench, int depth) {
            int end = DONE;
            for (int i = 0; i < times && end == DONE; i++) {
                end = doAll(first, states, bench, depth + 1);
            }
            return end;
        }
    }

    /** An expression or a part of one. */
    private abstract static class Expression {
        /** Its factor. */
        final long falls;

        Expression(long falls) {
            this.falls = falls;
        }

        int binding() {
            return TIGHTEST;
        }

        abstract void write(StringBuilder text);

        /** Lays what it can give for one of the states on the bench, as a spread; false if it is OVER. */
        abstract boolean lay(Bench bench, States states, int row);

        final void writeSide(StringBuilder text, boolean bracketed) {
            if (bracketed) {
                text.append('(');
            }
            write(text);
            if (bracketed) {
                text.append(')');
            }
        }
    }

    /** A NAME, or a NUMBER (its name is NONE then). */
    private static final class Plain extends Expression {
        private final int name;
        private final int number;

        Plain(int name, int number) {
            super(1);
            this.name = name;
            this.number = number;
        }

        void write(StringBuilder text) {
            if (name == NONE) {
                text.append(number);
            } else {
                text.append((char) ('A' + name));
            }
        }

        boolean lay(Bench bench, States states, int row) {
            bench.open();
            bench.put(name == NONE ? number : states.valueOf(row, name), 1);
            return true;
        }
    }

    /** Faces in square brackets. */
    private static final class Row extends Expression {
        private final int[] faces;

        Row(int[] faces) {
            super(faces.length);
            this.faces = faces;
        }

        void write(StringBuilder text) {
            for (int i = 0; i < faces.length; i++) {
                text.append(i == 0 ? '[' : ',');
                text.append(faces[i]);
            }
            text.append(']');
        }

        boolean lay(Bench bench, States states, int row) {
            bench.open();
            for (int i = 0; i < faces.length; i++) {
                bench.put(faces[i], 1);
            }
            return true;
        }
    }

    /** Dice; of which are added up tells the pick: ALL, 'h' or 'l' so many of them, 'e' so many rolls more. */
    private static final class Dice extends Expression {
        private final int count;
        private final int sides;
        private final char pick;
        private final int picked;
        /** The ways of each sum, counted when they are needed first. */
        private long[] waysOfSums = null;

        Dice(int count, int sides, char pick, int picked) {
            super(power(sides, pick == 'e' ? picked + 1 : count));
            this.count = count;
            this.sides = sides;
            this.pick = pick;
            this.picked = picked;
        }

        void write(StringBuilder text) {
            if (count > 1) {
                text.append(count);
            }
            text.append('d');
            text.append(sides);
            if (pick != ALL) {
                text.append(pick);
                text.append(picked);
            }
        }

        boolean lay(Bench bench, States states, int row) {
            if (waysOfSums == null) {
                waysOfSums = pick == 'e' ? countRollsMore() : countSums(bench.tally);
            }
            bench.open();
            for (int sum = 0; sum < waysOfSums.length; sum++) {
                if (waysOfSums[sum] > 0) {
                    bench.put(sum, waysOfSums[sum]);
                }
            }
            return true;
        }

        private long[] countRollsMore() {
            long[] counted = new long[sides * (picked + 1) + 1];
            for (int roll = 0; roll <= picked; roll++) {
                // The dice that are not rolled fall in all their ways, too.
                long ways = power(sides, picked - roll);
                for (int face = 1; face < sides; face++) {
                    counted[roll * sides + face] = ways;
                }
            }
            counted[sides * (picked + 1)] = 1;
            return counted;
        }

        /**
         * Goes through the faces from the end that is picked; tally[n][sum] is in how many ways n of the dice show
         * faces gone through, with this sum of the picked ones among them.
         */
        private long[] countSums(long[][] tally) {
            int greatest = picked * sides;
            for (int placed = 0; placed <= count; placed++) {
                Arrays.fill(tally[placed], 0);
            }
            tally[0][0] = 1;
            for (int i = 1; i <= sides; i++) {
                int face = pick == 'l' ? i : sides + 1 - i;
                // Downwards, so that dice that show this face are not counted as placed before it.
                for (int placed = count - 1; placed >= 0; placed--) {
                    for (int more = 1; more <= count - placed; more++) {
                        showFace(tally, placed, more, face, choicesOf(more, count - placed));
                    }
                }
            }
            return Arrays.copyOf(tally[count], greatest + 1);
        }

        private void showFace(long[][] tally, int placed, int more, int face, long choices) {
            int before = Math.min(placed, picked);
            int gain = face * (Math.min(placed + more, picked) - before);
            long[] from = tally[placed];
            long[] to = tally[placed + more];
            for (int sum = 0; sum <= before * sides; sum++) {
                to[sum + gain] += choices * from[sum];
            }
        }

        private static long choicesOf(int some, int all) {
            long choices = 1;
            for (int i = 1; i <= some; i++) {
                choices = choices * (all - some + i) / i;
            }
            return choices;
        }
    }

    /** A minus sign and what is behind it. */
    private static final class Minus extends Expression {
        private final Expression operand;

        Minus(Expression operand) {
            super(operand.falls);
            this.operand = operand;
        }

        void write(StringBuilder text) {
            text.append('-');
            operand.writeSide(text, operand.binding() < TIGHTEST);
        }

        boolean lay(Bench bench, States states, int row) {
            boolean within = operand.lay(bench, states, row);
            bench.negate();
            return within;
        }
    }

    /** An operation with two sides. */
    private static final class Operation extends Expression {
        private final char sign;
        private final Expression first;
        private final Expression second;

        Operation(char sign, Expression first, Expression second) {
            super(product(first.falls, second.falls));
            this.sign = sign;
            this.first = first;
            this.second = second;
        }

        int binding() {
            return bindingOf(sign);
        }

        void write(StringBuilder text) {
            int mine = binding();
            int firsts = first.binding();
            first.writeSide(text, firsts < mine || firsts == COMPARISON && mine == COMPARISON);
            text.append(sign);
            second.writeSide(text, second.binding() <= mine);
        }

        boolean lay(Bench bench, States states, int row) {
            return first.lay(bench, states, row) && second.lay(bench, states, row) && bench.combine(sign);
        }

        /** What the operation gives, OUTSIDE if something is divided by 0. */
        private static int resultOf(char sign, int one, int two) {
            switch (sign) {
                case '+':
                    return one + two;
                case '-':
                    return one - two;
                case '*':
                    return one * two;
                case '/':
                    return two == 0 ? OUTSIDE : Math.floorDiv(one, two);
                case '%':
                    return two == 0 ? OUTSIDE : Math.floorMod(one, two);
                case '<':
                    return one < two ? 1 : 0;
                case '>':
                    return one > two ? 1 : 0;
                default:
                    return one == two ? 1 : 0;
            }
        }
    }

    /**
     * What a run works with: rows that are made once for all runs. Spreads (values with their ways) lie on it one
     * behind another, each from its start to the start of the next one; the last one is worked on.
     */
    private static final class Bench {
        /**
         * A spread has at most as many values as its factor, and at most ALL_VALUES; the factors of all that lie here
         * give at most MOST_FALLS. So there are never more than 2 * ALL_VALUES, 2^31 / ALL_VALUES^2 and one for each
         * other leaf.
         */
        private static final int ROOM = 2 * ALL_VALUES + 600;

        private final int[] value = new int[ROOM];
        private final long[] ways = new long[ROOM];
        private final int[] start = new int[MOST_LEAVES + 1];
        private int spreads = 0;
        /** What an operation gives: the ways of each value, and which values have any. */
        private final long[] given = new long[ALL_VALUES];
        private final int[] found = new int[ALL_VALUES];
        private int finds = 0;

        private final long[][] tally = new long[MOST_DICE + 1][MOST_DICE * MOST_SIDES + 1];
        private final States begun = new States();
        private final States after = new States();
        private final States[] yes = new States[MOST_BRACES];
        private final States[] no = new States[MOST_BRACES];
        private int mostStates = 0;

        Bench() {
            for (int i = 0; i < MOST_BRACES; i++) {
                yes[i] = new States();
                no[i] = new States();
            }
        }

        /** The states in the beginning of a run. */
        States begin() {
            begun.clear();
            begun.addZeros();
            mostStates = begun.size;
            return begun;
        }

        /** Leaves the spread of an expression for a state as the only one; false if it is OVER. */
        boolean workOut(Expression expression, States states, int row) {
            spreads = 0;
            return expression.lay(this, states, row);
        }

        void open() {
            if (spreads < MOST_LEAVES) {
                start[spreads + 1] = start[spreads];
                spreads++;
            }
        }

        void put(int itsValue, long itsWays) {
            int end = start[spreads];
            if (end < ROOM) {
                value[end] = itsValue;
                ways[end] = itsWays;
                start[spreads] = end + 1;
            }
        }

        void negate() {
            if (spreads < 1) {
                return;
            }
            for (int i = start[spreads - 1]; i < start[spreads]; i++) {
                value[i] = -value[i];
            }
        }

        /** Makes one spread of the last two; false if the operation is OVER for some of their values. */
        boolean combine(char sign) {
            if (spreads < 2) {
                return false;
            }
            boolean within = collect(sign, start[spreads - 2], start[spreads - 1], start[spreads]);
            spreads--;
            start[spreads] = start[spreads - 1];
            for (int i = 0; i < finds; i++) {
                int at = found[i] + LIMIT;
                put(found[i], given[at]);
                given[at] = 0;
            }
            finds = 0;
            return within;
        }

        private boolean collect(char sign, int first, int second, int end) {
            for (int i = first; i < second; i++) {
                for (int j = second; j < end; j++) {
                    int result = Operation.resultOf(sign, value[i], value[j]);
                    if (result < -LIMIT || result > LIMIT) {
                        return false;
                    }
                    if (given[result + LIMIT] == 0) {
                        found[finds] = result;
                        finds++;
                    }
                    given[result + LIMIT] += ways[i] * ways[j];
                }
            }
            return true;
        }

        /** In how many ways what was worked out is not 0. */
        long waysOfYes() {
            long sum = 0;
            for (int i = 0; i < start[1]; i++) {
                sum += value[i] != 0 ? ways[i] : 0;
            }
            return sum;
        }

        /** Gives a variable of a state all values that were worked out; false if there are too many states then. */
        boolean giveTo(States after, States states, int row, int name) {
            for (int i = 0; i < start[1]; i++) {
                if (!after.addWith(states, row, name, value[i], ways[i])) {
                    return false;
                }
            }
            return true;
        }
    }

    /** States, each with its ways. */
    private static final class States {
        /** The variables of one state behind those of another, and one place more for a state that is looked for. */
        private int[] value = new int[(MOST_STATES + 1) * VARIABLES];
        private long[] ways = new long[MOST_STATES];
        private int size = 0;

        void clear() {
            size = 0;
        }

        void addZeros() {
            for (int i = 0; i < VARIABLES; i++) {
                value[i] = 0;
            }
            ways[0] = 1;
            size = 1;
        }

        int valueOf(int row, int name) {
            return value[row * VARIABLES + name];
        }

        void swapWith(States other) {
            int[] itsValue = other.value;
            long[] itsWays = other.ways;
            int itsSize = other.size;
            other.value = value;
            other.ways = ways;
            other.size = size;
            value = itsValue;
            ways = itsWays;
            size = itsSize;
        }

        /** Adds a state that is not among these, with so many times its ways, if that is any. */
        void append(States from, int row, long times) {
            if (times > 0 && size < MOST_STATES) {
                copyBehind(from, row);
                ways[size] = from.ways[row] * times;
                size++;
            }
        }

        /** Adds a state with a variable changed; false if there would be too many. */
        boolean addWith(States from, int row, int name, int given, long times) {
            copyBehind(from, row);
            value[size * VARIABLES + name] = given;
            return settle(from.ways[row] * times);
        }

        /** Adds all states of others with so many times their ways; false if there would be too many. */
        boolean join(States from, long times) {
            boolean fits = true;
            for (int i = 0; i < from.size && fits; i++) {
                copyBehind(from, i);
                fits = settle(from.ways[i] * times);
            }
            return fits;
        }

        private void copyBehind(States from, int row) {
            System.arraycopy(from.value, row * VARIABLES, value, size * VARIABLES, VARIABLES);
        }

        /** Gives ways to the state that was copied behind these: to the same one among these, if there is. */
        private boolean settle(long more) {
            for (int i = 0; i < size; i++) {
                if (isLikeLast(i)) {
                    ways[i] += more;
                    return true;
                }
            }
            if (size >= MOST_STATES) {
                return false;
            }
            ways[size] = more;
            size++;
            return true;
        }

        private boolean isLikeLast(int row) {
            for (int i = 0; i < VARIABLES; i++) {
                if (valueOf(row, i) != valueOf(size, i)) {
                    return false;
                }
            }
            return true;
        }
    }
}
