/** Each sentence of the grammar that names an edge: at it, one below it and one above it. */
public final class GrammarEdgesTest {
    public static void main(String[] args) {
        shapes();
        Check.holds("A NAME is one of A .. F", GrammarEdgesTest::names);
        Check.holds("a VARIABLE, at first 0", GrammarEdgesTest::variablesAtFirst);
        Check.holds("A NUMBER is 0 .. 999", GrammarEdgesTest::numbers);
        Check.holds("told by one to three digits", GrammarEdgesTest::digits);
        Check.holds("without zeros in front (0 itself is 0)", GrammarEdgesTest::zerosInFront);
        Check.holds("Digits are read as far as there are any.", GrammarEdgesTest::allDigits);
        Check.holds("There are at most 24 statements", GrammarEdgesTest::statements);
        Check.holds("braces lie inside one another at most four deep", GrammarEdgesTest::braces);
        Check.holds("round brackets and minus signs of factors together at most five deep",
            GrammarEdgesTest::brackets);
        Check.holds("at most 40 of NAMES in expressions, NUMBERS that are factors, dice and rows in square brackets",
            GrammarEdgesTest::leaves);
        Check.holds("n dice (1, if there is no number in front; 1 .. 6)", GrammarEdgesTest::howManyDice);
        Check.holds("with the faces 1 .. m (m 2 .. 20)", GrammarEdgesTest::howManySides);
        Check.holds("with h or l and k (1 .. n)", GrammarEdgesTest::howManyPicked);
        Check.holds("with e and k (1 .. 3; n is 1 then)", GrammarEdgesTest::howManyRollsMore);
        Check.holds("is a die with these faces (1 to 8 of them, each as likely)", GrammarEdgesTest::howManyFaces);
        Check.holds("(NUMBER 0 .. 20)", GrammarEdgesTest::howManyTimes);
        Check.finish();
    }

    private static void shapes() {
        Check.holds("without blanks", GrammarEdgesTest::blanks);
        Check.holds("program = statement*", GrammarEdgesTest::anyStatements);
        Check.holds("'!' expression ';' | '?' expression '{' program '}'", GrammarEdgesTest::oneExpression);
        Check.holds("[ ':' '{' program '}' ]", GrammarEdgesTest::secondProgramOrNot);
        Check.holds("expression = sum [ ('<'|'>'|'=') sum ]", GrammarEdgesTest::oneComparison);
        Check.holds("sum = product ( ('+'|'-') product )*", GrammarEdgesTest::anySums);
        Check.holds("product = factor ( ('*'|'/'|'%') factor )*", GrammarEdgesTest::anyProducts);
        Check.holds("NUMBER [ dice ] | dice", GrammarEdgesTest::numberInFrontOrNot);
        Check.holds("'[' NUMBER ( ',' NUMBER )* ']'", GrammarEdgesTest::rows);
        Check.holds("dice = 'd' NUMBER [ ('h'|'l'|'e') NUMBER ]", GrammarEdgesTest::onePick);
    }

    private static void blanks() {
        Check.leavesAll("typing a blank", x -> x.type(' ', 1), DiceOdds.NONE);
        Check.leavesAll("typing one behind others", x -> x.type(Check.packed("A= 1;"), 5), DiceOdds.NONE);
    }

    private static void anyStatements() {
        Check.good("", 0);
        Check.good("A=1;", 1);
        Check.good("A=1;B=2;", 2);
        Check.bad(";", 0);
        Check.bad("A=1;;", 4);
        Check.bad("A=1;}", 4);
        Check.good("?A{}", 1);
        Check.good("?A{A=1;}", 2);
        Check.good("?A{A=1;B=2;}", 3);
    }

    private static void oneExpression() {
        Check.bad("A=;", 2);
        Check.bad("!;", 1);
        Check.bad("?{}", 1);
        Check.bad("A=1", 3);
        Check.bad("!1", 2);
        Check.bad("?1", 2);
        Check.bad("?1{", 3);
        Check.bad("A=1B;", 3);
        Check.bad("!1A;", 2);
        Check.bad("?1A{}", 2);
        Check.bad("A=1,1;", 3);
    }

    private static void secondProgramOrNot() {
        Check.good("?A{}", 1);
        Check.good("?A{}:{}", 1);
        Check.bad("?A{}:", 5);
        Check.bad("?A{}:{", 6);
        Check.bad("?A{}:{}:{}", 7);
        Check.bad("?A:{}", 2);
        Check.bad("*1{}:{}", 4);
        Check.bad(":{}", 0);
    }

    private static void oneComparison() {
        String signs = "<>=";
        Check.good("A=1;", 1);
        for (char one : signs.toCharArray()) {
            Check.good("A=1" + one + "2;", 1);
            Check.bad("A=1" + one + ";", 4);
            Check.bad("A=" + one + "1;", 2);
            for (char two : signs.toCharArray()) {
                Check.bad("A=1" + one + "2" + two + "3;", 5);
                Check.good("A=(1" + one + "2)" + two + "3;", 1);
                Check.good("A=1" + one + "(2" + two + "3);", 1);
            }
        }
    }

    private static void anySums() {
        for (char sign : "+-".toCharArray()) {
            Check.good("A=1" + sign + "1;", 1);
            Check.good("A=1" + Check.times(sign + "1", 39) + ";", 1);
            Check.bad("A=1" + sign + ";", 4);
            Check.bad("A=1" + sign + "+1;", 4);
        }
        Check.bad("A=+1;", 2);
        Check.good("A=-1;", 1);
        Check.good("A=1--1;", 1);
    }

    private static void anyProducts() {
        for (char sign : "*/%".toCharArray()) {
            Check.good("A=1" + sign + "1;", 1);
            Check.good("A=1" + Check.times(sign + "1", 39) + ";", 1);
            Check.bad("A=1" + sign + ";", 4);
            Check.bad("A=" + sign + "1;", 2);
            Check.bad("A=1" + sign + sign + "1;", 4);
            Check.good("A=1" + sign + "-1;", 1);
        }
    }

    private static void numberInFrontOrNot() {
        Check.good("A=1;", 1);
        Check.good("A=d6;", 1);
        Check.good("A=2d6;", 1);
        Check.bad("A=d6d6;", 4);
        Check.bad("A=2d6d6;", 5);
        Check.bad("A=Ad6;", 3);
        Check.bad("A=(2)d6;", 5);
        Check.bad("A=[2]d6;", 5);
        Check.bad("A=2[6];", 3);
        Check.bad("A=();", 3);
        Check.bad("A=-;", 3);
    }

    private static void rows() {
        Check.good("A=[1];", 1);
        Check.good("A=[1,2];", 1);
        Check.bad("A=[];", 3);
        Check.bad("A=[,1];", 3);
        Check.bad("A=[1,];", 5);
        Check.bad("A=[1,,2];", 5);
        Check.bad("A=[1;", 4);
        Check.bad("A=[-1];", 3);
        Check.bad("A=[A];", 3);
        Check.bad("A=[d6];", 3);
    }

    private static void onePick() {
        for (char pick : "hle".toCharArray()) {
            Check.good("A=d6" + pick + "1;", 1);
            Check.bad("A=d6" + pick + ";", 5);
            Check.bad("A=d6" + pick + "1" + pick + "1;", 6);
            Check.bad("A=1" + pick + "1;", 3);
        }
        Check.bad("A=d6g1;", 4);
        Check.bad("A=d;", 3);
    }

    private static void names() {
        for (char name = 'A'; name <= 'F'; name++) {
            Check.good(name + "=" + name + ";", 1);
            Check.gives(name + "=7;A=" + name + ";", "7:1");
        }
        for (char none : "@GHZ`af".toCharArray()) {
            Check.bad(none + "=1;", 0);
            Check.bad("A=" + none + ";", 2);
            Check.bad("?A{" + none + "=1;}", 3);
        }
    }

    private static void variablesAtFirst() {
        for (char name = 'A'; name <= 'F'; name++) {
            Check.gives("A=" + name + ";", "0:1");
            Check.ends("!" + name + ";", DiceOdds.IMPOSSIBLE, 1);
            DiceOdds x = Check.ran("A=" + name + "+5;" + name + "=5;", 0);
            for (int i = 0; i < 3; i++) {
                Check.due("run again", x, y -> y.run(0), 0);
                Check.same("it begins with 0, too", Check.result(x, 0), "5:1");
            }
        }
    }

    private static void numbers() {
        int[] some = {0, 1, 9, 10, 99, 100, 998, 999};
        for (int number : some) {
            Check.gives("A=" + number + ";", number + ":1");
            Check.gives("A=[" + number + "];", number + ":1");
        }
        Check.bad("A=1000;", 2);
        Check.bad("A=[1000];", 3);
        Check.bad("A=1+1000;", 4);
        Check.bad("A=9999;", 2);
    }

    private static void digits() {
        Check.bad("*{}", 1);
        Check.bad("A=d", 3);
        Check.bad("A=[", 3);
        Check.good("A=1;", 1);
        Check.good("A=12;", 1);
        Check.good("A=123;", 1);
        Check.bad("A=1234;", 2);
        Check.bad("A=[1,1234];", 5);
    }

    private static void zerosInFront() {
        Check.good("A=0;", 1);
        Check.good("A=10;", 1);
        Check.good("A=100;", 1);
        String[] zeros = {"00", "01", "000", "001", "010", "0000", "0999"};
        for (String number : zeros) {
            Check.bad("A=" + number + ";", 2);
            Check.bad("A=[0," + number + "];", 5);
        }
        Check.bad("A=01d6;", 2);
        Check.bad("A=d06;", 3);
        Check.bad("A=2d6h01;", 6);
        Check.bad("A=d6e01;", 5);
        Check.bad("*01{}", 1);
        Check.bad("*00{}", 1);
        Check.good("*0{}", 1);
    }

    private static void allDigits() {
        Check.bad("A=12345;", 2);
        Check.bad("A=00000;", 2);
        Check.bad("A=66d6;", 2);
        Check.bad("A=d200;", 3);
        Check.bad("A=6d20h66;", 7);
        Check.bad("A=d6e11;", 5);
        Check.bad("A=[9999];", 3);
        Check.bad("*200{}", 1);
        Check.bad("A=" + Check.times("9", 158), 2);
        // 2^32, of which an int keeps 0, and 2^64 + 7, of which a long keeps 7.
        Check.bad("A=4294967296;", 2);
        Check.bad("A=18446744073709551623;", 2);
        Check.bad("A=4294967298d6;", 2);
    }

    private static void statements() {
        String[] one = {"A=1;", "!1;", "?1{}", "*1{}"};
        for (String statement : one) {
            Check.good(Check.times("!1;", 22) + statement, 23);
            Check.good(Check.times("!1;", 23) + statement, 24);
            Check.bad(Check.times("!1;", 24) + statement, 72);
            Check.bad(Check.times("!1;", 25) + statement, 72);
        }
        Check.good("*1{" + Check.times("!1;", 22) + "}", 23);
        Check.good("*1{" + Check.times("!1;", 23) + "}", 24);
        Check.bad("*1{" + Check.times("!1;", 24) + "}", 72);
        Check.good("?A{" + Check.times("!1;", 11) + "}:{" + Check.times("!1;", 12) + "}", 24);
        Check.bad("?A{" + Check.times("!1;", 12) + "}:{" + Check.times("!1;", 12) + "}", 75);
        Check.bad("*1{" + Check.times("!1;", 23) + "}A=1;", 73);
    }

    private static void braces() {
        String[] one = {"*1{", "?A{"};
        for (String open : one) {
            Check.good(Check.times(open, 3) + "}}}", 3);
            Check.good(Check.times(open, 4) + "}}}}", 4);
            Check.bad(Check.times(open, 5) + "}}}}}", 14);
            Check.bad(Check.times(open, 6) + "}}}}}}", 14);
        }
        Check.good("?A{}:{?A{}:{?A{}:{?A{}:{}}}}", 4);
        Check.bad("?A{}:{?A{}:{?A{}:{?A{}:{?A{}}}}}", 26);
        Check.bad("?A{}:{?A{}:{?A{}:{?A{}:{*1{}}}}}", 26);
        Check.good(Check.times("*1{}", 6), 6);
        Check.good("*1{*1{*1{*1{}*1{}}*1{*1{}}}}*1{*1{*1{*1{}}}}", 11);
        Check.gives("*1{*1{*1{?1{A=7;}}}}", "7:1");
        Check.gives("?A{}:{?A{}:{?A{}:{?A{}:{A=7;}}}}", "7:1");
    }

    private static void nested(String signs, int place) {
        String closed = signs.replaceAll("[^(]", "").replace('(', ')');
        String text = "A=" + signs + "7" + closed + ";";
        if (place < 0) {
            Check.good(text, 1);
            Check.gives(text, (signs.replace("(", "").length() % 2 == 0 ? "7" : "-7") + ":1");
        } else {
            Check.bad(text, place);
        }
    }

    private static void brackets() {
        String[] five = {"(((((", "-----", "-(-(-", "(-(-(", "((---", "---((", "((((-", "----("};
        for (String signs : five) {
            nested(signs.substring(1), -1);
            nested(signs, -1);
            nested(signs + "(", 7);
            nested(signs + "-", 7);
            nested(signs + "-(", 7);
        }
        Check.good("A=1-1-1-1-1-1-1;", 1);
        Check.good("A=(((((1-1-1)))));", 1);
        Check.good("A=-1*-1*-1*-1*-1*-1;", 1);
        Check.good("A=(((((1)))))+(((((1)))))*-----1;", 1);
        Check.good("A=((((([1,2])))));", 1);
        Check.bad("A=(((((1)))))+(((((-1)))));", 19);
        Check.bad("A=(((((1+-1)))));", 9);
        Check.good("A=((((-1+-1))));", 1);
    }

    private static void leaves() {
        String[] one = {"A", "1", "999", "d2", "2d2", "2d2h1", "d2e1", "[1,2,3]", "-A", "(1)"};
        for (String leaf : one) {
            int sign = leaf.charAt(0) == '-' || leaf.charAt(0) == '(' ? 1 : 0;
            Check.good("A=" + Check.times("1+", 38) + leaf + ";", 1);
            Check.good("A=" + Check.times("1+", 39) + leaf + ";", 1);
            Check.bad("A=" + Check.times("1+", 40) + leaf + ";", 82 + sign);
            Check.bad("A=" + Check.times("A*", 40) + leaf + ";", 82 + sign);
        }
        Check.good("A=" + Check.times("d2+", 30) + Check.times("[1]+", 9) + "1;", 1);
        Check.bad("A=" + Check.times("d2+", 30) + Check.times("[1]+", 10) + "1;", 132);
        Check.good("A=" + Check.times("1+", 35) + "2d2+2d2h1+d2e1+[1,2,3]+A;*20{}*0{}", 3);
        Check.good("A=" + Check.times("1+", 19) + "1;?" + Check.times("A+", 19) + "1{*20{}}", 3);
        Check.bad("A=" + Check.times("1+", 19) + "1;?" + Check.times("A+", 19) + "1{!1;}", 84);
        Check.good(Check.times("B=1;", 23) + "A=" + Check.times("1+", 16) + "1;", 24);
        Check.bad(Check.times("B=1;", 23) + "A=" + Check.times("1+", 17) + "1;", 128);
    }

    private static void howManyDice() {
        Check.gives("A=d2;", "1:1 2:1");
        Check.gives("A=1d2;", "1:1 2:1");
        Check.gives("A=2d2;", "2:1 3:2 4:1");
        Check.gives("A=5d2;", "5:1 6:5 7:10 8:10 9:5 10:1");
        Check.gives("A=6d2;", "6:1 7:6 8:15 9:20 10:15 11:6 12:1");
        int[] none = {0, 7, 8, 10, 999};
        for (int n : none) {
            Check.bad("A=" + n + "d2;", 2);
            Check.bad("A=" + n + "d1;", 2);
            Check.bad("A=" + n + "d", 2);
            Check.good("A=" + n + ";", 1);
        }
    }

    private static void howManySides() {
        Check.bad("A=d0;", 3);
        Check.bad("A=d1;", 3);
        Check.gives("A=d2;", "1:1 2:1");
        Check.gives("A=d3;", "1:1 2:1 3:1");
        Check.gives("A=d19-17>0;", "0:17 1:2");
        Check.gives("A=d20-17>0;", "0:17 1:3");
        Check.gives("A=(d20=1)+2*(d20=20);", "0:361 1:19 2:19 3:1");
        Check.bad("A=d21;", 3);
        Check.bad("A=d22;", 3);
        Check.bad("A=6d1;", 4);
        Check.bad("A=6d21;", 4);
        Check.bad("A=d999;", 3);
    }

    private static void howManyPicked() {
        for (char pick : "hl".toCharArray()) {
            for (int n = 1; n <= 6; n++) {
                Check.bad("A=" + n + "d2" + pick + "0;", 6);
                Check.good("A=" + n + "d2" + pick + "1;", 1);
                Check.good("A=" + n + "d2" + pick + n + ";", 1);
                Check.bad("A=" + n + "d2" + pick + (n + 1) + ";", 6);
            }
            Check.good("A=d2" + pick + "1;", 1);
            Check.bad("A=d2" + pick + "2;", 5);
            Check.bad("A=d2" + pick + "0;", 5);
        }
        Check.gives("A=3d3h1;", "1:1 2:7 3:19");
        Check.gives("A=3d3h2;", "2:1 3:3 4:7 5:9 6:7");
        Check.gives("A=3d3h3;", "3:1 4:3 5:6 6:7 7:6 8:3 9:1");
        Check.gives("A=3d3l1;", "1:19 2:7 3:1");
        Check.gives("A=3d3l2;", "2:7 3:9 4:7 5:3 6:1");
        Check.gives("A=3d3l3;", "3:1 4:3 5:6 6:7 7:6 8:3 9:1");
        Check.gives("A=d3h1;", "1:1 2:1 3:1");
        Check.gives("A=d3l1;", "1:1 2:1 3:1");
        Check.gives("A=3d3;A=3d2h1;", "1:1 2:7");
        Check.gives("A=3d3;A=3d2l1;", "1:7 2:1");
        Check.gives("A=6d20h1=20;", "0:47045881 1:16954119");
        Check.gives("A=6d20l1=1;", "0:47045881 1:16954119");
    }

    private static void howManyRollsMore() {
        Check.bad("A=d3e0;", 5);
        Check.gives("A=d3e1;", "1:3 2:3 4:1 5:1 6:1");
        Check.gives("A=d3e2;", "1:9 2:9 4:3 5:3 7:1 8:1 9:1");
        Check.gives("A=d3e3;", "1:27 2:27 4:9 5:9 7:3 8:3 10:1 11:1 12:1");
        Check.bad("A=d3e4;", 5);
        Check.gives("A=d2e1;", "1:2 3:1 4:1");
        Check.gives("A=1d2e1;", "1:2 3:1 4:1");
        Check.gives("A=d20e3=80;", "0:159999 1:1");
        Check.gives("A=d20e3>60;", "0:7999 1:1");
        for (int n = 2; n <= 6; n++) {
            Check.bad("A=" + n + "d3e1;", 5);
        }
        Check.bad("A=0d3e1;", 2);
    }

    private static void howManyFaces() {
        Check.bad("A=[];", 3);
        Check.gives("A=[5];", "5:1");
        Check.gives("A=[5,6];", "5:1 6:1");
        Check.gives("A=[1,2,3,4,5,6,7];", "1:1 2:1 3:1 4:1 5:1 6:1 7:1");
        Check.gives("A=[8,7,6,5,4,3,2,1];", "1:1 2:1 3:1 4:1 5:1 6:1 7:1 8:1");
        Check.gives("A=[0,0,0,0,0,0,0,999];", "0:7 999:1");
        Check.bad("A=[1,2,3,4,5,6,7,8,9];", 18);
        Check.bad("A=[1,2,3,4,5,6,7,8,9,10];", 18);
        Check.bad("A=[1,2,3,4,5,6,7,8,", 18);
        Check.bad("A=[1,2,3,4,5,6,7,8", 18);
        Check.bad("A=[1,2,3,4,5,6,7,8,1000];", 18);
    }

    private static void howManyTimes() {
        Check.gives("*0{A=A+1;}", "0:1");
        Check.gives("*1{A=A+1;}", "1:1");
        Check.gives("*19{A=A+1;}", "19:1");
        Check.gives("*20{A=A+1;}", "20:1");
        Check.bad("*21{A=A+1;}", 1);
        Check.bad("*22{}", 1);
        Check.bad("*999{}", 1);
        Check.bad("*-1{}", 1);
        Check.bad("*A{}", 1);
        Check.bad("*1+1{}", 2);
        Check.gives("*0{}", "0:1");
        Check.gives("*20{*20{A=A+1;}}", "400:1");
        Check.gives("*20{*0{A=A+1;}B=B+1;}A=B;", "20:1");
    }
}
