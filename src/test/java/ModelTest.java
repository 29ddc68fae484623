import java.math.BigDecimal;
import java.math.BigInteger;
import java.math.RoundingMode;
import java.util.ArrayList;
import java.util.List;
import java.util.Map;
import java.util.Random;
import java.util.TreeMap;

/** All promises, by many programs and wrong texts made by chance (always the same ones), against the model. */
public final class ModelTest {
    private static final int PROGRAMS = Integer.getInteger("programs", 20000);
    private static final String SIGNS = "ABCDEFG0123456789dhle=;!?{}:*+-/%<>()[],";
    private static final Random CHANCE = new Random(Long.getLong("seed", 7));
    private static final Map<String, Integer> SEEN = new TreeMap<>();

    public static void main(String[] args) {
        DiceOdds x = new DiceOdds();
        int used = 0;
        for (int i = 0; i < PROGRAMS; i++) {
            String text = program(0, 1 + CHANCE.nextInt(5));
            if (CHANCE.nextInt(3) == 0) {
                text = changed(text);
            }
            if (text.length() <= 160) {
                if (used++ % 3 == 0) {
                    x = new DiceOdds();
                }
                compare(x, text, i % 3);
            }
        }
        if (System.getProperty("tell") != null) {
            System.out.println(SEEN);
        }
        Check.same("all kinds of ends were seen", SEEN.size(), 5);
        Check.finish();
    }

    private static void compare(DiceOdds x, String text, int slot) {
        x.wipe();
        Check.typeAll(x, text);
        Model model;
        try {
            model = new Model(text);
        } catch (Model.Wrong wrong) {
            Check.due("read of " + text, x, y -> y.read(slot), Check.ARGUMENT);
            Check.due("place in " + text, x, y -> y.place(), wrong.place);
            SEEN.merge("wrong", 1, Integer::sum);
            return;
        }
        Check.due("read of " + text, x, y -> y.read(slot), model.statements);
        String printed = Model.print(model.program);
        Check.due("print of " + text, x, y -> y.print(slot), printed.length());
        Check.same("print of " + text, Check.textOf(x), printed);
        BigInteger factor = Model.factor(model.program);
        Check.due("factor of " + text, x, y -> y.factor(slot), factor);
        if (isQuick(model.program, 1)) {
            compareRuns(x, text, slot, model);
        }
    }

    /** Whether the model can go through all falls of the programs' expressions. */
    private static boolean isQuick(Model.Tree t, long times) {
        long factor = t.sign.equals("program") ? 1 : Model.factor(t).longValue();
        if (t.sign.equals("program") || t.sign.equals("?") || t.sign.equals("*")) {
            long inner = t.sign.equals("*") ? times * t.numbers.get(0) : times;
            return t.parts.stream().allMatch(part -> isQuick(part, inner));
        }
        return factor * times < 5000;
    }

    private static void compareRuns(DiceOdds x, String text, int slot, Model model) {
        Map<Integer, BigInteger> want;
        try {
            want = model.run();
        } catch (Model.Ended ended) {
            Check.due("run of " + text, x, y -> y.run(slot), ended.how);
            Check.due("states of " + text, x, y -> y.states(), model.mostStates);
            Check.due("outcomes of " + text, x, y -> y.outcomes(slot), Check.STATE);
            SEEN.merge("ended " + ended.how, 1, Integer::sum);
            return;
        }
        SEEN.merge("done", 1, Integer::sum);
        Check.due("run of " + text, x, y -> y.run(slot), 0);
        Check.due("states of " + text, x, y -> y.states(), model.mostStates);
        String told = want.toString().replaceAll("[{},]", "").replace('=', ':');
        Check.same("result of " + text, Check.result(x, slot), told);
        compareReports(x, text, slot, want);
    }

    private static void compareReports(DiceOdds x, String text, int slot, Map<Integer, BigInteger> want) {
        BigInteger total = want.values().stream().reduce(BigInteger.ZERO, BigInteger::add);
        Check.due("total of " + text, x, y -> y.total(slot), total);
        List<Integer> values = new ArrayList<>(want.keySet());
        BigInteger one = BigInteger.ZERO;
        BigInteger two = BigInteger.ZERO;
        BigInteger less = BigInteger.ZERO;
        BigInteger upTo = BigInteger.ZERO;
        int whole = 1 + CHANCE.nextInt(1000);
        int part = CHANCE.nextInt(whole + 1);
        long way = (long) (CHANCE.nextDouble() * total.longValue());
        Integer percentile = null;
        Integer sample = null;
        for (int i = 0; i < values.size(); i++) {
            BigInteger value = BigInteger.valueOf(values.get(i));
            BigInteger ways = want.get(values.get(i));
            one = one.add(value.multiply(ways));
            two = two.add(value.multiply(value).multiply(ways));
            less = less.add(upTo.multiply(ways));
            upTo = upTo.add(ways);
            BigInteger upToWhole = upTo.multiply(BigInteger.valueOf(whole));
            if (percentile == null && upToWhole.compareTo(total.multiply(BigInteger.valueOf(part))) >= 0) {
                percentile = values.get(i);
            }
            if (sample == null && upTo.longValue() > way) {
                sample = values.get(i);
            }
            BigDecimal share = new BigDecimal(ways).movePointRight(6);
            int at = i;
            Check.due("millionths of " + text, x, y -> y.millionths(slot, at),
                share.divide(new BigDecimal(total), 0, RoundingMode.HALF_EVEN));
        }
        Check.due("moment 1 of " + text, x, y -> y.moment(slot, 1), one);
        Check.due("moment 2 of " + text, x, y -> y.moment(slot, 2), two);
        Check.due("percentile of " + text, x, y -> y.percentile(slot, part, whole), percentile);
        Check.due("sample of " + text, x, y -> y.sample(slot, way), sample);
        Check.due("compare of " + text, x, y -> y.compare(slot, slot, -1), less);
        Check.due("compare of " + text, x, y -> y.compare(slot, slot, 1), less);
        Check.due("compare of " + text, x, y -> y.compare(slot, slot, 0),
            total.multiply(total).subtract(less.shiftLeft(1)));
    }

    // Texts by chance

    private static String changed(String text) {
        StringBuilder all = new StringBuilder(text);
        int at = CHANCE.nextInt(all.length() + 1);
        char sign = SIGNS.charAt(CHANCE.nextInt(SIGNS.length()));
        switch (CHANCE.nextInt(4)) {
            case 0:
                all.setLength(at);
                break;
            case 1:
                all.insert(at, sign);
                break;
            default:
                if (at < all.length()) {
                    all.setCharAt(at, sign);
                }
                break;
        }
        return all.toString();
    }

    private static String program(int deep, int statements) {
        StringBuilder all = new StringBuilder();
        for (int i = 0; i < statements; i++) {
            all.append(statement(deep));
        }
        return all.toString();
    }

    private static String statement(int deep) {
        int kind = CHANCE.nextInt(deep < 4 ? 10 : 7);
        String inner = kind < 7 ? "" : "{" + program(deep + 1, CHANCE.nextInt(4)) + "}";
        if (kind < 6) {
            return name() + "=" + expression(0) + ";";
        }
        if (kind == 6) {
            return "!" + (CHANCE.nextBoolean() ? name() + "<" : name() + ">-") + expression(3) + ";";
        }
        if (kind == 7) {
            return "*" + CHANCE.nextInt(CHANCE.nextInt(9) == 0 ? 22 : 4) + inner;
        }
        String other = CHANCE.nextBoolean() ? "" : ":{" + program(deep + 1, CHANCE.nextInt(3)) + "}";
        return "?" + expression(1) + inner + other;
    }

    private static String name() {
        return "AAABBCDEF".charAt(CHANCE.nextInt(9)) + "";
    }

    private static String expression(int deep) {
        int kind = CHANCE.nextInt(12 + 3 * deep);
        if (kind < 4) {
            return expression(deep + 1) + "+-*/%+-<>=".charAt(CHANCE.nextInt(10)) + expression(deep + 1);
        }
        if (kind < 6) {
            return "(" + expression(deep + 1) + ")" + "+-*/%<>=".charAt(CHANCE.nextInt(8)) + expression(deep + 2);
        }
        if (kind < 7) {
            return "-" + expression(deep + 1);
        }
        if (kind < 8) {
            return "(" + expression(deep + 1) + ")";
        }
        return leaf();
    }

    private static String leaf() {
        switch (CHANCE.nextInt(7)) {
            case 0:
                return "" + CHANCE.nextInt(CHANCE.nextInt(9) == 0 ? 1000 : 10);
            case 1:
                return "d" + (2 + CHANCE.nextInt(7));
            case 2:
                int n = 1 + CHANCE.nextInt(4);
                return n + "d" + (2 + CHANCE.nextInt(3)) + (CHANCE.nextBoolean() ? "h" : "l") + (1 + CHANCE.nextInt(n));
            case 3:
                return "d" + (2 + CHANCE.nextInt(3)) + "e" + (1 + CHANCE.nextInt(3));
            case 4:
                StringBuilder row = new StringBuilder("[" + CHANCE.nextInt(5));
                for (int i = CHANCE.nextInt(4); i > 0; i--) {
                    row.append(",").append(CHANCE.nextInt(9));
                }
                return row + "]";
            default:
                return name();
        }
    }
}
