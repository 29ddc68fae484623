/** Each sentence of the promises 11 to 19 that names an edge, and what the object answers after a refused call. */
public final class ReportEdgesTest {
    private static final int[] FAR = {Integer.MIN_VALUE, Integer.MAX_VALUE};
    /** Nearly all of 2^31 ways have the least value that there can be, one has the next one. */
    private static final String NEARLY_LEAST = "A=-999+(" + Check.ALL_COINS + ">61);";
    private static final long NEARLY_ALL = Check.MOST_FALLS - 1;

    public static void main(String[] args) {
        Check.holds("How many outcomes a slot's result has. IllegalArgumentException when there is no such slot;"
            + " IllegalStateException when it has no result.", ReportEdgesTest::outcomes);
        Check.holds("Outcome i, from 0. Exceptions as above, and IndexOutOfBoundsException when there is none such.",
            ReportEdgesTest::outcome);
        Check.holds("Its ways; likewise.", ReportEdgesTest::ways);
        Check.holds("The total. Exceptions as for outcomes.", ReportEdgesTest::total);
        Check.holds("times the outcome (k 1) or its square (k 2)", ReportEdgesTest::moment);
        Check.holds("IllegalArgumentException also when k is neither.", ReportEdgesTest::momentOfNeither);
        Check.holds("rounded to the nearest, a half to the even one", ReportEdgesTest::rounding);
        Check.holds("How many millionths of the total outcome i has", ReportEdgesTest::millionths);
        Check.holds("The least outcome so that those up to it have at least part / whole of the total.",
            ReportEdgesTest::percentile);
        Check.holds("IllegalArgumentException also when whole is not 1 .. 1000, or part not 0 .. whole.",
            ReportEdgesTest::partsThatAreNone);
        Check.holds("The outcome of way p, from 0, if all ways are put in the order of their outcomes.",
            ReportEdgesTest::sample);
        Check.holds("IndexOutOfBoundsException when there is no such way.", ReportEdgesTest::waysThatAreNone);
        Check.holds("Of all pairs of a way of one slot and a way of another one (or the same)",
            ReportEdgesTest::compare);
        Check.holds("in how many the first one's outcome is less (-1), the same (0), more (1)",
            ReportEdgesTest::signs);
        Check.holds("IllegalArgumentException also when sign is none of these.", ReportEdgesTest::signsThatAreNone);
        Check.holds("as if each were run alone", ReportEdgesTest::eachAlone);
        Check.finish();
    }

    /** A report of a slot. */
    private interface Report {
        long of(DiceOdds x, int slot);
    }

    /** Without slot or result it is refused, and nothing is changed; with one, nothing is changed either. */
    private static void needsResult(String what, Report report, Object want) {
        for (int slot : Check.NO_SLOTS) {
            Check.leavesAll(what + " of slot " + slot, x -> report.of(x, slot), Check.ARGUMENT);
        }
        Check.leavesAll(what + " of a program that was not run", x -> report.of(x, 1), Check.STATE);
        Check.leavesAll(what + " of a slot without program", x -> report.of(x, 2), Check.STATE);
        Check.leavesAll(what + " of a result", x -> report.of(x, 0), want);
        String[] ended = {"A=1/0;", "A=6d20;", "!0;"};
        for (String text : ended) {
            DiceOdds x = Check.with(text, 2);
            x.run(2);
            Check.due(what + " behind a run of " + text, x, y -> report.of(y, 2), Check.STATE);
        }
        DiceOdds x = Check.ran("A=5;", 0);
        Check.put(x, "A=5;", 0);
        Check.due(what + " behind a read", x, y -> report.of(y, 0), Check.STATE);
    }

    private static void outcomes() {
        Check.due("outcomes", Check.ran("", 0), x -> x.outcomes(0), 1);
        Check.due("outcomes", Check.ran("A=d2;", 0), x -> x.outcomes(0), 2);
        Check.due("outcomes", Check.ran("A=d9*7+d7;", 0), x -> x.outcomes(0), 63);
        Check.due("outcomes", Check.ran("A=d8*8+d8;", 0), x -> x.outcomes(0), 64);
        Check.due("outcomes of many states", Check.ran("B=d8;C=d8;A=5;", 0), x -> x.outcomes(0), 1);
        needsResult("outcomes", DiceOdds::outcomes, 2);
    }

    private static void indexed(String what, Check.Call ofNone, int i) {
        Check.leavesAll(what + " " + i, ofNone, Check.INDEX);
    }

    private static void outcome() {
        Check.due("outcome 0 of one", Check.ran("A=-7;", 0), x -> x.outcome(0, 0), -7);
        Check.due("outcome 1 of one", Check.ran("A=-7;", 0), x -> x.outcome(0, 1), Check.INDEX);
        Check.due("outcome 0 of 64", Check.ran("A=d8*8+d8;", 0), x -> x.outcome(0, 0), 9);
        Check.due("outcome 63 of 64", Check.ran("A=d8*8+d8;", 0), x -> x.outcome(0, 63), 72);
        Check.due("outcome 64 of 64", Check.ran("A=d8*8+d8;", 0), x -> x.outcome(0, 64), Check.INDEX);
        Check.leavesAll("outcome 0", x -> x.outcome(0, 0), 4);
        Check.leavesAll("outcome 1", x -> x.outcome(0, 1), 7);
        int[] none = {-1, 2, 3, 63, 64, 256, FAR[0], FAR[1]};
        for (int i : none) {
            indexed("outcome", x -> x.outcome(0, i), i);
            needsResult("outcome " + i, (x, slot) -> x.outcome(slot, i), Check.INDEX);
        }
        needsResult("outcome", (x, slot) -> x.outcome(slot, 0), 4);
    }

    private static void ways() {
        Check.due("ways 0 of one", Check.ran("A=-7;", 0), x -> x.ways(0, 0), 1);
        Check.due("ways 1 of one", Check.ran("A=-7;", 0), x -> x.ways(0, 1), Check.INDEX);
        Check.due("ways 63 of 64", Check.ran("A=d8*8+d8;", 0), x -> x.ways(0, 63), 1);
        Check.due("ways 64 of 64", Check.ran("A=d8*8+d8;", 0), x -> x.ways(0, 64), Check.INDEX);
        Check.due("nearly all ways", Check.ran(NEARLY_LEAST, 0), x -> x.ways(0, 0), NEARLY_ALL);
        Check.due("the one way left", Check.ran(NEARLY_LEAST, 0), x -> x.ways(0, 1), 1);
        Check.leavesAll("ways 0", x -> x.ways(0, 0), 2);
        Check.leavesAll("ways 1", x -> x.ways(0, 1), 1);
        int[] none = {-1, 2, 3, 63, 64, 256, FAR[0], FAR[1]};
        for (int i : none) {
            indexed("ways", x -> x.ways(0, i), i);
            needsResult("ways " + i, (x, slot) -> x.ways(slot, i), Check.INDEX);
        }
        needsResult("ways", (x, slot) -> x.ways(slot, 0), 2);
    }

    private static void total() {
        Check.due("the least total", Check.ran("", 0), x -> x.total(0), 1);
        Check.due("one more", Check.ran("A=d2;", 0), x -> x.total(0), 2);
        Check.due("the greatest total", Check.ran(NEARLY_LEAST, 0), x -> x.total(0), Check.MOST_FALLS);
        DiceOdds x = Check.ran("A=d2;", 0);
        Check.due("a second run", x, y -> y.run(0), 0);
        Check.due("total of a second run", x, y -> y.total(0), 2);
        needsResult("total", DiceOdds::total, 3);
    }

    private static void moment() {
        DiceOdds x = Check.ran("A=[0,1,1,5]-3;", 0);
        Check.due("moment 1", x, y -> y.moment(0, 1), -5);
        Check.due("moment 2", x, y -> y.moment(0, 2), 21);
        DiceOdds zero = Check.ran("", 0);
        Check.due("moment 1 of 0", zero, y -> y.moment(0, 1), 0);
        Check.due("moment 2 of 0", zero, y -> y.moment(0, 2), 0);
        DiceOdds most = Check.ran("A=d8*8+d8;", 0);
        Check.due("moment 1 of 64 outcomes", most, y -> y.moment(0, 1), 2592);
        Check.due("moment 2 of 64 outcomes", most, y -> y.moment(0, 2), 126816);
        Check.put(most, "A=2;", 0);
        Check.due("run of a program with one outcome", most, y -> y.run(0), 0);
        Check.due("moment 1 behind a longer result", most, y -> y.moment(0, 1), 2);
        Check.due("moment 2 behind a longer result", most, y -> y.moment(0, 2), 4);
        DiceOdds least = Check.ran(NEARLY_LEAST, 0);
        Check.due("the least moment 1", least, y -> y.moment(0, 1), -999 * NEARLY_ALL - 998);
        Check.due("the greatest moment 2", least, y -> y.moment(0, 2), 999L * 999 * NEARLY_ALL + 998 * 998);
        needsResult("moment 1", (y, slot) -> y.moment(slot, 1), 15);
        needsResult("moment 2", (y, slot) -> y.moment(slot, 2), 81);
    }

    private static void momentOfNeither() {
        int[] none = {0, 3, -1, -2, 4, 257, FAR[0], FAR[1]};
        for (int k : none) {
            for (int slot = -1; slot <= 3; slot++) {
                int s = slot;
                Check.leavesAll("moment " + k + " of slot " + s, x -> x.moment(s, k), Check.ARGUMENT);
            }
        }
    }

    /** An outcome 1 with some of all ways, and an outcome 0 with the others. */
    private static void rounded(String text, String ways, int zero, int one) {
        DiceOdds x = Check.ran(text, 0);
        Check.same("result of " + text, Check.result(x, 0), ways);
        Check.due("millionths of 0 of " + text, x, y -> y.millionths(0, 0), zero);
        Check.due("millionths of 1 of " + text, x, y -> y.millionths(0, 1), one);
    }

    private static void rounding() {
        rounded("A=d2>1;", "0:1 1:1", 500000, 500000);
        rounded("A=d3>1;", "0:1 1:2", 333333, 666667);
        rounded("A=d7>4;", "0:4 1:3", 571429, 428571);
        // A half: 0.5 and 999999.5, 1.5 and 999998.5, 2.5 and 999997.5, 7812.5 and 992187.5, 23437.5 and 976562.5.
        rounded("A=6d5+6d2+d2>43;", "0:1999999 1:1", 1000000, 0);
        rounded("A=(6d5>29)*(2d2<4)*(5d2>9);", "0:1999997 1:3", 999998, 2);
        rounded("A=(6d5>29)*(d8<6)*(4d2>7);", "0:399999 1:1", 999998, 2);
        rounded("A=(6d2>11)*(d2>1);", "0:127 1:1", 992188, 7812);
        rounded("A=(2d2<4)*(5d2>9);", "0:125 1:3", 976562, 23438);
        // Next to a half: 1/1953125 is 0.512 millionths, 1/2187500 is 0.457.
        rounded("A=6d5+2d5+d5>44;", "0:1953124 1:1", 999999, 1);
        rounded("A=(6d5>29)*(d20>19)*(d7>6);", "0:2187499 1:1", 1000000, 0);
    }

    private static void millionths() {
        Check.due("all of one", Check.ran("A=7;", 0), x -> x.millionths(0, 0), 1000000);
        DiceOdds x = Check.ran(NEARLY_LEAST, 0);
        Check.due("nearly all of the greatest total", x, y -> y.millionths(0, 0), 1000000);
        Check.due("nearly nothing of it", x, y -> y.millionths(0, 1), 0);
        Check.due("the 64th of 64", Check.ran("A=d8*8+d8;", 0), y -> y.millionths(0, 63), 15625);
        Check.due("the 65th of 64", Check.ran("A=d8*8+d8;", 0), y -> y.millionths(0, 64), Check.INDEX);
        int[] none = {-1, 2, 3, 63, 64, 256, FAR[0], FAR[1]};
        for (int i : none) {
            indexed("millionths", y -> y.millionths(0, i), i);
            needsResult("millionths " + i, (y, slot) -> y.millionths(slot, i), Check.INDEX);
        }
        needsResult("millionths", (y, slot) -> y.millionths(slot, 0), 666667);
    }

    private static void percentile() {
        // 4 has two ways of three, 7 the third one.
        int[][] due = {{0, 1, 4}, {1, 1, 7}, {0, 1000, 4}, {1, 1000, 4}, {1, 3, 4}, {2, 3, 4}, {3, 3, 7},
            {666, 999, 4}, {665, 999, 4}, {667, 999, 7}, {666, 1000, 4}, {667, 1000, 7}, {999, 1000, 7},
            {1000, 1000, 7}, {999, 999, 7}};
        for (int[] one : due) {
            Check.leavesAll("percentile " + one[0] + "/" + one[1], x -> x.percentile(0, one[0], one[1]), one[2]);
        }
        DiceOdds single = Check.ran("A=-7;", 0);
        Check.due("none of one", single, x -> x.percentile(0, 0, 1), -7);
        Check.due("all of one", single, x -> x.percentile(0, 1, 1), -7);
        DiceOdds x = Check.ran(NEARLY_LEAST, 0);
        Check.due("less than all of the greatest total", x, y -> y.percentile(0, 999, 1000), -999);
        Check.due("all of it", x, y -> y.percentile(0, 1000, 1000), -998);
        DiceOdds most = Check.ran("A=d8*8+d8;", 0);
        Check.due("63 of 64", most, y -> y.percentile(0, 63, 64), 71);
        Check.due("64 of 64", most, y -> y.percentile(0, 64, 64), 72);
        needsResult("percentile", (y, slot) -> y.percentile(slot, 1, 2), 4);
    }

    private static void partsThatAreNone() {
        int[][] good = {{0, 1}, {1, 1}, {0, 2}, {2, 2}, {0, 999}, {999, 999}, {0, 1000}, {1000, 1000}};
        for (int[] of : good) {
            Check.due("percentile " + of[0] + "/" + of[1], Check.ran("A=5;", 0), x -> x.percentile(0, of[0], of[1]), 5);
        }
        int[][] none = {{0, 0}, {0, -1}, {-1, -1}, {0, 1001}, {1, 1001}, {1001, 1001}, {-1, 1}, {2, 1}, {-1, 1000},
            {1001, 1000}, {FAR[0], 1}, {FAR[1], 1}, {0, FAR[0]}, {0, FAR[1]}, {FAR[0], FAR[0]}, {FAR[1], FAR[1]}};
        for (int[] of : none) {
            for (int slot = -1; slot <= 3; slot++) {
                int s = slot;
                Check.leavesAll("percentile " + of[0] + "/" + of[1] + " of slot " + s,
                    x -> x.percentile(s, of[0], of[1]), Check.ARGUMENT);
            }
        }
    }

    private static void sample() {
        int[] due = {4, 4, 7};
        for (int p = 0; p < 3; p++) {
            int way = p;
            Check.leavesAll("sample " + p, x -> x.sample(0, way), due[p]);
        }
        int[] ofThree = {1, 3, 3, 8, 8};
        for (int p = 0; p < 5; p++) {
            int way = p;
            Check.due("sample " + p, Check.ran("A=[3,8,3,8,1];", 0), x -> x.sample(0, way), ofThree[p]);
        }
        Check.due("the only way", Check.ran("A=-7;", 0), x -> x.sample(0, 0), -7);
        DiceOdds x = Check.ran(NEARLY_LEAST, 0);
        Check.due("the first of all ways", x, y -> y.sample(0, 0), -999);
        Check.due("the last but one", x, y -> y.sample(0, NEARLY_ALL - 1), -999);
        Check.due("the last one", x, y -> y.sample(0, NEARLY_ALL), -998);
        Check.due("behind it", x, y -> y.sample(0, Check.MOST_FALLS), Check.INDEX);
        DiceOdds most = Check.ran("A=d8*8+d8;", 0);
        Check.due("the 64th of 64", most, y -> y.sample(0, 63), 72);
        Check.due("the 65th of 64", most, y -> y.sample(0, 64), Check.INDEX);
        needsResult("sample", (y, slot) -> y.sample(slot, 2), 7);
    }

    private static void waysThatAreNone() {
        long[] none = {-1, 3, 4, 1L << 32, (1L << 32) + 1, -(1L << 32), Long.MIN_VALUE, Long.MAX_VALUE};
        for (long p : none) {
            Check.leavesAll("sample " + p, x -> x.sample(0, p), Check.INDEX);
            needsResult("sample " + p, (x, slot) -> x.sample(slot, p), Check.INDEX);
        }
        Check.due("sample 0 of one", Check.ran("", 0), x -> x.sample(0, 0), 0);
        Check.due("sample 1 of one", Check.ran("", 0), x -> x.sample(0, 1), Check.INDEX);
    }

    private static DiceOdds two(String first, String second) {
        DiceOdds x = Check.ran(first, 0);
        Check.put(x, second, 2);
        Check.due("run of " + second, x, y -> y.run(2), 0);
        return x;
    }

    private static void compared(DiceOdds x, int slot, int other, long... want) {
        for (int sign = -1; sign <= 1; sign++) {
            int s = sign;
            String what = "compare of " + slot + " and " + other + " by " + s;
            Check.due(what, x, y -> y.compare(slot, other, s), want[s + 1]);
        }
    }

    private static void compare() {
        compared(two("", ""), 0, 2, 0, 1, 0);
        compared(two("A=[4,4,7];", "A=[4,7];"), 0, 2, 2, 3, 1);
        compared(two("A=[4,4,7];", "A=[4,7];"), 2, 0, 1, 3, 2);
        compared(two("A=[4,4,7];", ""), 0, 0, 2, 5, 2);
        compared(two("A=5;", "A=d9;"), 0, 2, 4, 1, 4);
        compared(two("A=d9;", "A=5;"), 0, 2, 4, 1, 4);
        DiceOdds shorter = two("A=d8*8+d8;", "A=d9;");
        Check.put(shorter, "A=5;", 0);
        Check.due("run of a program with one outcome", shorter, y -> y.run(0), 0);
        compared(shorter, 0, 2, 4, 1, 4);
        DiceOdds x = two("A=" + Check.ALL_COINS + ";", "A=" + Check.ALL_COINS + "+32;");
        compared(x, 0, 2, 1L << 62, 0, 0);
        compared(x, 2, 0, 0, 0, 1L << 62);
        DiceOdds next = two("A=" + Check.ALL_COINS + ";", "A=" + Check.ALL_COINS + "+31;");
        compared(next, 0, 2, (1L << 62) - 1, 1, 0);
        compared(two("A=d8*8+d8;", "A=d8*8+d8;"), 0, 2, 2016, 64, 2016);
        needsResult("compare with a result", (y, slot) -> y.compare(slot, 0, 0), 5);
        needsResult("compare of a result", (y, slot) -> y.compare(0, slot, 0), 5);
        needsResult("compare with itself", (y, slot) -> y.compare(slot, slot, 0), 5);
        for (int slot : Check.NO_SLOTS) {
            Check.leavesAll("compare of no result and no slot", y -> y.compare(1, slot, 0), Check.ARGUMENT);
            Check.leavesAll("compare of no slot and no result", y -> y.compare(slot, 1, 0), Check.ARGUMENT);
        }
    }

    private static void signs() {
        compared(two("A=4;", "A=5;"), 0, 2, 1, 0, 0);
        compared(two("A=5;", "A=5;"), 0, 2, 0, 1, 0);
        compared(two("A=6;", "A=5;"), 0, 2, 0, 0, 1);
        compared(two("A=-999;", "A=999;"), 0, 2, 1, 0, 0);
        compared(two("A=999;", "A=-999;"), 0, 2, 0, 0, 1);
    }

    private static void signsThatAreNone() {
        int[] none = {-2, 2, -3, 3, 255, 256, FAR[0], FAR[1]};
        for (int sign : none) {
            for (int slot = -1; slot <= 3; slot++) {
                int s = slot;
                Check.leavesAll("compare by " + sign, x -> x.compare(s, 0, sign), Check.ARGUMENT);
                Check.leavesAll("compare by " + sign, x -> x.compare(0, s, sign), Check.ARGUMENT);
                Check.leavesAll("compare by " + sign, x -> x.compare(s, s, sign), Check.ARGUMENT);
            }
        }
    }

    private static void eachAlone() {
        DiceOdds x = Check.ran("A=d2;", 1);
        compared(x, 1, 1, 1, 2, 1);
        Check.due("states behind it", x, y -> y.states(), 2);
        Check.due("outcomes behind it", x, y -> y.outcomes(1), 2);
        compared(x, 1, 1, 1, 2, 1);
    }
}
