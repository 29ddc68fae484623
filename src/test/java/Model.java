import java.math.BigInteger;
import java.util.ArrayList;
import java.util.Collections;
import java.util.LinkedHashMap;
import java.util.List;
import java.util.Map;

/**
 * The document's terms told a second time, in the most roundabout way: every fall of every die is gone through, one
 * by one. Texts are cut up on the fly; a program is kept as the text that print would give, and run from there.
 */
final class Model {
    /** A text that is no program. */
    static final class Wrong extends Exception {
        private static final long serialVersionUID = 1L;
        final int place;

        Wrong(int place) {
            this.place = place;
        }
    }

    /** A run that ends early. */
    static final class Ended extends Exception {
        private static final long serialVersionUID = 1L;
        final int how;

        Ended(int how) {
            this.how = how;
        }
    }

    /** A node: of a program its statements, of others its sign and parts. */
    static final class Tree {
        final String sign;
        final List<Tree> parts = new ArrayList<>();
        final List<Integer> numbers = new ArrayList<>();

        Tree(String sign, Tree... parts) {
            this.sign = sign;
            Collections.addAll(this.parts, parts);
        }
    }

    final Tree program;
    int statements = 0;
    int mostStates = 0;

    private final String text;
    private int at = 0;
    private int leaves = 0;

    Model(String text) throws Wrong {
        this.text = text;
        program = program(0);
        if (at < text.length()) {
            throw new Wrong(at);
        }
        if (factor(program).compareTo(BigInteger.ONE.shiftLeft(31)) > 0) {
            throw new Wrong(text.length());
        }
    }

    // Reading

    private boolean sees(String signs) {
        return at < text.length() && signs.indexOf(text.charAt(at)) >= 0;
    }

    private String eat(String signs) throws Wrong {
        if (!sees(signs)) {
            throw new Wrong(at);
        }
        return text.substring(at, ++at);
    }

    private int eatNumber(int least, int most) throws Wrong {
        int from = at;
        while (sees("0123456789")) {
            at++;
        }
        String digits = text.substring(from, at);
        if (!digits.matches("0|[1-9][0-9]{0,2}")) {
            throw new Wrong(from);
        }
        int number = Integer.parseInt(digits);
        if (number < least || number > most) {
            throw new Wrong(from);
        }
        return number;
    }

    private Tree program(int deep) throws Wrong {
        Tree all = new Tree("program");
        while (sees("ABCDEF!?*")) {
            if (statements == 24) {
                throw new Wrong(at);
            }
            statements++;
            all.parts.add(statement(deep));
        }
        if (at < text.length() && !sees("}")) {
            throw new Wrong(at);
        }
        return all;
    }

    private Tree braces(int deep) throws Wrong {
        if (deep == 4) {
            throw new Wrong(at);
        }
        eat("{");
        Tree inner = program(deep + 1);
        eat("}");
        return inner;
    }

    private Tree statement(int deep) throws Wrong {
        String sign = eat("ABCDEF!?*");
        if (sign.equals("*")) {
            int times = eatNumber(0, 20);
            Tree all = new Tree("*", braces(deep));
            all.numbers.add(times);
            return all;
        }
        if (sign.equals("?")) {
            Tree condition = comparison(0);
            Tree yes = braces(deep);
            Tree no = new Tree("program");
            if (sees(":")) {
                eat(":");
                no = braces(deep);
            }
            return new Tree("?", condition, yes, no);
        }
        if (!sign.equals("!")) {
            eat("=");
        }
        Tree inner = comparison(0);
        eat(";");
        return new Tree(sign, inner);
    }

    private Tree comparison(int deep) throws Wrong {
        Tree all = sum(deep);
        return sees("<>=") ? new Tree("two" + eat("<>="), all, sum(deep)) : all;
    }

    private Tree sum(int deep) throws Wrong {
        Tree all = product(deep);
        while (sees("+-")) {
            all = new Tree("two" + eat("+-"), all, product(deep));
        }
        return all;
    }

    private Tree product(int deep) throws Wrong {
        Tree all = side(deep);
        while (sees("*/%")) {
            all = new Tree("two" + eat("*/%"), all, side(deep));
        }
        return all;
    }

    private Tree side(int deep) throws Wrong {
        if (sees("-(")) {
            if (deep == 5) {
                throw new Wrong(at);
            }
            if (eat("-(").equals("-")) {
                return new Tree("minus", side(deep + 1));
            }
            Tree inner = comparison(deep + 1);
            eat(")");
            return inner;
        }
        if (!sees("ABCDEF0123456789d[") || leaves == 40) {
            throw new Wrong(at);
        }
        leaves++;
        if (sees("ABCDEF")) {
            return new Tree("name" + eat("ABCDEF"));
        }
        if (sees("[")) {
            return row();
        }
        int from = at;
        int number = sees("d") ? 1 : eatNumber(0, 999);
        if (!sees("d")) {
            Tree all = new Tree("number");
            all.numbers.add(number);
            return all;
        }
        if (number < 1 || number > 6) {
            throw new Wrong(from);
        }
        return dice(number);
    }

    private Tree row() throws Wrong {
        Tree all = new Tree("row");
        do {
            at++;
            all.numbers.add(eatNumber(0, 999));
        } while (sees(",") && all.numbers.size() < 8);
        eat("]");
        return all;
    }

    private Tree dice(int n) throws Wrong {
        eat("d");
        int m = eatNumber(2, 20);
        Tree all;
        if (sees("hl")) {
            all = new Tree("dice" + eat("hl"));
            Collections.addAll(all.numbers, n, m, eatNumber(1, n));
        } else if (sees("e") && n == 1) {
            all = new Tree("dice" + eat("e"));
            Collections.addAll(all.numbers, n, m, eatNumber(1, 3));
        } else if (sees("e")) {
            throw new Wrong(at);
        } else {
            all = new Tree("dice");
            Collections.addAll(all.numbers, n, m, n);
        }
        return all;
    }

    // Printing

    static String print(Tree t) {
        switch (t.sign) {
            case "program":
                StringBuilder all = new StringBuilder();
                t.parts.forEach(part -> all.append(print(part)));
                return all.toString();
            case "*":
                return "*" + t.numbers.get(0) + "{" + print(t.parts.get(0)) + "}";
            case "?":
                String no = print(t.parts.get(2));
                return "?" + print(t.parts.get(0)) + "{" + print(t.parts.get(1)) + "}"
                    + (no.isEmpty() ? "" : ":{" + no + "}");
            case "!":
                return "!" + print(t.parts.get(0)) + ";";
            case "number":
                return t.numbers.get(0).toString();
            case "row":
                return t.numbers.toString().replace(" ", "");
            case "minus":
                return "-" + side(t.parts.get(0), tightness(t.parts.get(0)) < 9);
            default:
                return printLonger(t);
        }
    }

    private static String printLonger(Tree t) {
        if (t.sign.startsWith("dice")) {
            String pick = t.sign.substring(4);
            return (t.numbers.get(0) == 1 ? "" : t.numbers.get(0)) + "d" + t.numbers.get(1) + pick
                + (pick.isEmpty() ? "" : t.numbers.get(2));
        }
        if (t.sign.startsWith("name")) {
            return t.sign.substring(4);
        }
        if (t.sign.startsWith("two")) {
            int mine = tightness(t);
            int one = tightness(t.parts.get(0));
            int two = tightness(t.parts.get(1));
            return side(t.parts.get(0), one < mine || mine == 1 && one == 1) + t.sign.substring(3)
                + side(t.parts.get(1), two <= mine);
        }
        return t.sign + "=" + print(t.parts.get(0)) + ";";
    }

    private static String side(Tree t, boolean bracketed) {
        return bracketed ? "(" + print(t) + ")" : print(t);
    }

    private static int tightness(Tree t) {
        if (!t.sign.startsWith("two")) {
            return 9;
        }
        return "<>=".contains(t.sign.substring(3)) ? 1 : "+-".contains(t.sign.substring(3)) ? 2 : 3;
    }

    // Factors

    static BigInteger factor(Tree t) {
        BigInteger all = BigInteger.ONE;
        if (t.sign.equals("row")) {
            return BigInteger.valueOf(t.numbers.size());
        }
        if (t.sign.startsWith("dice")) {
            return BigInteger.valueOf(t.numbers.get(1)).pow(fallen(t));
        }
        if (t.sign.equals("*")) {
            return factor(t.parts.get(0)).pow(t.numbers.get(0));
        }
        if (t.sign.equals("?")) {
            return factor(t.parts.get(0)).multiply(least(factor(t.parts.get(1)), factor(t.parts.get(2))));
        }
        for (Tree part : t.parts) {
            all = all.multiply(factor(part));
        }
        return all;
    }

    private static int fallen(Tree dice) {
        return dice.sign.equals("dicee") ? dice.numbers.get(2) + 1 : dice.numbers.get(0);
    }

    private static BigInteger least(BigInteger one, BigInteger two) {
        return one.multiply(two).divide(one.gcd(two));
    }

    // Running

    /** The falls that are gone through: each die that falls takes the next digit of a counter. */
    private static final class Falls {
        final List<Integer> digits = new ArrayList<>();
        final List<Integer> bases = new ArrayList<>();
        int used = 0;

        int next(int base) {
            if (used == digits.size()) {
                digits.add(0);
                bases.add(base);
            }
            return digits.get(used++);
        }

        boolean count() {
            used = 0;
            for (int i = 0; i < digits.size(); i++) {
                if (digits.get(i) + 1 < bases.get(i)) {
                    digits.set(i, digits.get(i) + 1);
                    return true;
                }
                digits.set(i, 0);
            }
            return false;
        }
    }

    /** Outcomes with their ways, or an end. */
    Map<Integer, BigInteger> run() throws Ended {
        Map<List<Integer>, BigInteger> states = new LinkedHashMap<>();
        states.put(List.of(0, 0, 0, 0, 0, 0), BigInteger.ONE);
        mostStates = 1;
        states = runAll(program, states);
        if (states.isEmpty()) {
            throw new Ended(DiceOdds.IMPOSSIBLE);
        }
        Map<Integer, BigInteger> outcomes = new java.util.TreeMap<>();
        states.forEach((state, ways) -> outcomes.merge(state.get(0), ways, BigInteger::add));
        BigInteger common = outcomes.values().stream().reduce(BigInteger.ZERO, BigInteger::gcd);
        outcomes.replaceAll((value, ways) -> ways.divide(common));
        return outcomes;
    }

    private Map<List<Integer>, BigInteger> runAll(Tree program, Map<List<Integer>, BigInteger> before) throws Ended {
        Map<List<Integer>, BigInteger> states = before;
        for (Tree statement : program.parts) {
            if (states.isEmpty()) {
                return states;
            }
            states = runOne(statement, states);
            if (states.size() > 64) {
                throw new Ended(DiceOdds.MANY);
            }
            mostStates = Math.max(mostStates, states.size());
        }
        return states;
    }

    private Map<List<Integer>, BigInteger> runOne(Tree t, Map<List<Integer>, BigInteger> before) throws Ended {
        Map<List<Integer>, BigInteger> states = before;
        if (t.sign.equals("*")) {
            for (int i = 0; i < t.numbers.get(0); i++) {
                states = runAll(t.parts.get(0), states);
            }
            return states;
        }
        Map<List<Integer>, BigInteger> yes = new LinkedHashMap<>();
        Map<List<Integer>, BigInteger> no = new LinkedHashMap<>();
        for (Map.Entry<List<Integer>, BigInteger> state : states.entrySet()) {
            Falls falls = new Falls();
            do {
                int value = value(t.parts.get(0), state.getKey(), falls);
                List<Integer> after = new ArrayList<>(state.getKey());
                boolean sorted = t.sign.equals("!") || t.sign.equals("?");
                if (!sorted) {
                    after.set(t.sign.charAt(0) - 'A', value);
                }
                (sorted && value == 0 ? no : yes).merge(after, state.getValue(), BigInteger::add);
            } while (falls.count());
        }
        if (!t.sign.equals("?")) {
            return yes;
        }
        BigInteger one = factor(t.parts.get(1));
        BigInteger two = factor(t.parts.get(2));
        Map<List<Integer>, BigInteger> behind = new LinkedHashMap<>();
        Map<List<Integer>, BigInteger> behindYes = runAll(t.parts.get(1), yes);
        Map<List<Integer>, BigInteger> behindNo = runAll(t.parts.get(2), no);
        behindYes.forEach((s, ways) -> behind.merge(s, ways.multiply(least(one, two).divide(one)), BigInteger::add));
        behindNo.forEach((s, ways) -> behind.merge(s, ways.multiply(least(one, two).divide(two)), BigInteger::add));
        return behind;
    }

    private static int value(Tree t, List<Integer> state, Falls falls) throws Ended {
        if (t.sign.equals("number")) {
            return t.numbers.get(0);
        }
        if (t.sign.equals("row")) {
            return t.numbers.get(falls.next(t.numbers.size()));
        }
        if (t.sign.startsWith("name")) {
            return state.get(t.sign.charAt(4) - 'A');
        }
        if (t.sign.startsWith("dice")) {
            return valueOfDice(t, falls);
        }
        int one = value(t.parts.get(0), state, falls);
        if (t.sign.equals("minus")) {
            return -one;
        }
        return valueOfTwo(t.sign.charAt(3), one, value(t.parts.get(1), state, falls));
    }

    private static int valueOfDice(Tree t, Falls falls) {
        List<Integer> shown = new ArrayList<>();
        for (int i = 0; i < fallen(t); i++) {
            shown.add(falls.next(t.numbers.get(1)) + 1);
        }
        int k = t.numbers.get(2);
        if (t.sign.equals("dicee")) {
            int again = 0;
            while (again < k && shown.get(again).equals(t.numbers.get(1))) {
                again++;
            }
            shown = shown.subList(0, again + 1);
        } else {
            Collections.sort(shown);
            shown = t.sign.equals("dicel") ? shown.subList(0, k) : shown.subList(shown.size() - k, shown.size());
        }
        return shown.stream().mapToInt(Integer::intValue).sum();
    }

    private static int valueOfTwo(char sign, int one, int two) throws Ended {
        if ((sign == '/' || sign == '%') && two == 0) {
            throw new Ended(DiceOdds.OVER);
        }
        int result;
        switch (sign) {
            case '+': result = one + two; break;
            case '-': result = one - two; break;
            case '*': result = one * two; break;
            case '/': result = (int) Math.floor((double) one / two); break;
            case '%': result = one - two * (int) Math.floor((double) one / two); break;
            case '<': result = one < two ? 1 : 0; break;
            case '>': result = one > two ? 1 : 0; break;
            default: result = one == two ? 1 : 0; break;
        }
        if (Math.abs(result) > 999) {
            throw new Ended(DiceOdds.OVER);
        }
        return result;
    }
}
