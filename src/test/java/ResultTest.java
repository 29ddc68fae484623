/** Promises 11 to 19: the reports of outcomes, and comparisons. */
public final class ResultTest {
    public static void main(String[] args) {
        outcomes();
        moments();
        millionths();
        percentiles();
        samples();
        comparisons();
        withoutResult();
        withoutSlot();
        Check.finish();
    }

    private static void outcomes() {
        DiceOdds x = Check.ran("A=[9,3,3,1]-5;B=d6;", 2);
        Check.due("outcomes", x, y -> y.outcomes(2), 3);
        Check.same("result", Check.result(x, 2), "-4:1 -2:2 4:1");
        Check.due("total", x, y -> y.total(2), 4);
        int[] none = {-1, 3, 63, 64, Integer.MIN_VALUE, Integer.MAX_VALUE};
        for (int i : none) {
            Check.due("outcome " + i, x, y -> y.outcome(2, i), Check.INDEX);
            Check.due("ways " + i, x, y -> y.ways(2, i), Check.INDEX);
            Check.due("millionths " + i, x, y -> y.millionths(2, i), Check.INDEX);
        }
        DiceOdds z = Check.ran("A=2d6;!A%3=0;", 0);
        Check.same("what ways have in common is gone", Check.result(z, 0), "3:2 6:5 9:4 12:1");
        Check.due("total", z, y -> y.total(0), 12);
        Check.same("all outcomes", Check.result(Check.ran("A=d8*8+d8-9;", 0), 0).split(" ").length, 64);
    }

    private static void moments() {
        DiceOdds x = Check.ran("A=[0,1,5,9]-5;", 0);
        Check.due("moment 1", x, y -> y.moment(0, 1), -5);
        Check.due("moment 2", x, y -> y.moment(0, 2), 57);
        int[] none = {0, 3, -1, Integer.MIN_VALUE, Integer.MAX_VALUE};
        for (int k : none) {
            Check.due("moment " + k, x, y -> y.moment(0, k), Check.ARGUMENT);
        }
        DiceOdds z = Check.ran("A=-999+(6d20<7);", 1);
        Check.due("moment 2 of many ways", z, y -> y.moment(1, 2), 999L * 999 * 63999999 + 998 * 998);
    }

    private static void millionths() {
        DiceOdds x = Check.ran("A=[0,0,1];", 0);
        Check.due("millionths rounded up", x, y -> y.millionths(0, 0), 666667);
        Check.due("millionths rounded down", x, y -> y.millionths(0, 1), 333333);
        // 1/128 is 7812.5 millionths, 3/128 is 23437.5.
        DiceOdds even = Check.ran("A=(6d2>11)*(d2>1);", 0);
        Check.same("one of 128", Check.result(even, 0), "0:127 1:1");
        Check.due("a half to the even one below", even, y -> y.millionths(0, 1), 7812);
        Check.due("a half to the even one above", even, y -> y.millionths(0, 0), 992188);
        DiceOdds odd = Check.ran("A=(2d2<4)*(5d2>9);", 0);
        Check.same("three of 128", Check.result(odd, 0), "0:125 1:3");
        Check.due("a half to the even one above", odd, y -> y.millionths(0, 1), 23438);
        Check.due("a half to the even one below", odd, y -> y.millionths(0, 0), 976562);
        DiceOdds one = Check.ran("A=7;", 0);
        Check.due("all of it", one, y -> y.millionths(0, 0), 1000000);
        DiceOdds few = Check.ran("A=6d20<7;", 0);
        Check.due("nearly all of it", few, y -> y.millionths(0, 0), 1000000);
        Check.due("nearly nothing of it", few, y -> y.millionths(0, 1), 0);
    }

    private static void percentiles() {
        DiceOdds x = Check.ran("A=d4;", 0);
        Check.due("percentile 0", x, y -> y.percentile(0, 0, 1), 1);
        Check.due("percentile 1/4", x, y -> y.percentile(0, 1, 4), 1);
        Check.due("percentile 251/1000", x, y -> y.percentile(0, 251, 1000), 2);
        Check.due("percentile 1/2", x, y -> y.percentile(0, 1, 2), 2);
        Check.due("percentile 749/1000", x, y -> y.percentile(0, 749, 1000), 3);
        Check.due("percentile 751/1000", x, y -> y.percentile(0, 751, 1000), 4);
        Check.due("percentile 1000/1000", x, y -> y.percentile(0, 1000, 1000), 4);
        int[][] none = {{0, 0}, {0, -1}, {0, 1001}, {-1, 1}, {2, 1}, {1001, 1000}, {1, Integer.MAX_VALUE},
            {Integer.MIN_VALUE, 5}, {0, Integer.MIN_VALUE}};
        for (int[] of : none) {
            Check.due("percentile " + of[0] + "/" + of[1], x, y -> y.percentile(0, of[0], of[1]), Check.ARGUMENT);
        }
    }

    private static void samples() {
        DiceOdds x = Check.ran("A=[3,3,8,1];", 1);
        int[] want = {1, 3, 3, 8};
        for (int p = 0; p < 4; p++) {
            int way = p;
            Check.due("sample " + p, x, y -> y.sample(1, way), want[p]);
        }
        long[] none = {-1, 4, Long.MIN_VALUE, Long.MAX_VALUE, 1L << 32};
        for (long p : none) {
            Check.due("sample " + p, x, y -> y.sample(1, p), Check.INDEX);
        }
    }

    private static void comparisons() {
        DiceOdds x = Check.ran("A=d6;", 0);
        Check.put(x, "A=[1,7];", 2);
        Check.due("run", x, y -> y.run(2), 0);
        Check.due("less", x, y -> y.compare(0, 2, -1), 6);
        Check.due("the same", x, y -> y.compare(0, 2, 0), 1);
        Check.due("more", x, y -> y.compare(0, 2, 1), 5);
        Check.due("more, the other way round", x, y -> y.compare(2, 0, 1), 6);
        Check.due("less than itself", x, y -> y.compare(0, 0, -1), 15);
        Check.due("the same as itself", x, y -> y.compare(0, 0, 0), 6);
        int[] none = {-2, 2, Integer.MIN_VALUE, Integer.MAX_VALUE};
        for (int sign : none) {
            Check.due("compare by " + sign, x, y -> y.compare(0, 2, sign), Check.ARGUMENT);
        }
        Check.due("with a slot without result", x, y -> y.compare(0, 1, 0), Check.STATE);
        Check.due("of a slot without result", x, y -> y.compare(1, 0, 0), Check.STATE);
        DiceOdds z = Check.ran("A=6d2+6d2+6d2+6d2+6d2+d2<32;", 0);
        long less = z.ways(0, 0);
        Check.due("ways of many", z, y -> y.compare(0, 0, -1), less * (2147483648L - less));
    }

    private static void withoutResult() {
        DiceOdds x = Check.with("A=d6;", 0);
        for (int slot = 0; slot < 2; slot++) {
            int s = slot;
            Check.due("outcomes", x, y -> y.outcomes(s), Check.STATE);
            Check.due("outcome", x, y -> y.outcome(s, 0), Check.STATE);
            Check.due("outcome that is none", x, y -> y.outcome(s, -1), Check.STATE);
            Check.due("ways", x, y -> y.ways(s, 0), Check.STATE);
            Check.due("total", x, y -> y.total(s), Check.STATE);
            Check.due("moment", x, y -> y.moment(s, 1), Check.STATE);
            Check.due("moment that is none", x, y -> y.moment(s, 3), Check.ARGUMENT);
            Check.due("millionths", x, y -> y.millionths(s, 0), Check.STATE);
            Check.due("percentile", x, y -> y.percentile(s, 1, 2), Check.STATE);
            Check.due("percentile that is none", x, y -> y.percentile(s, 1, 0), Check.ARGUMENT);
            Check.due("sample", x, y -> y.sample(s, 0), Check.STATE);
            Check.due("sample that is none", x, y -> y.sample(s, -1), Check.STATE);
            Check.due("compare", x, y -> y.compare(s, s, 0), Check.STATE);
            Check.due("compare that is none", x, y -> y.compare(s, s, 2), Check.ARGUMENT);
            Check.due("compare with no slot", x, y -> y.compare(s, 3, 0), Check.ARGUMENT);
        }
    }

    private static void withoutSlot() {
        DiceOdds x = Check.ran("A=d6;", 0);
        for (int s : Check.NO_SLOTS) {
            Check.due("outcomes", x, y -> y.outcomes(s), Check.ARGUMENT);
            Check.due("outcome", x, y -> y.outcome(s, 0), Check.ARGUMENT);
            Check.due("ways", x, y -> y.ways(s, 0), Check.ARGUMENT);
            Check.due("total", x, y -> y.total(s), Check.ARGUMENT);
            Check.due("moment", x, y -> y.moment(s, 1), Check.ARGUMENT);
            Check.due("millionths", x, y -> y.millionths(s, 0), Check.ARGUMENT);
            Check.due("percentile", x, y -> y.percentile(s, 1, 2), Check.ARGUMENT);
            Check.due("sample", x, y -> y.sample(s, 0), Check.ARGUMENT);
            Check.due("compare", x, y -> y.compare(s, 0, 0), Check.ARGUMENT);
            Check.due("compare with", x, y -> y.compare(0, s, 0), Check.ARGUMENT);
        }
    }
}
