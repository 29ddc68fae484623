/** Each sentence of the terms that names an edge of a run: of operations, states, factors, ends and results. */
public final class RunEdgesTest {
    public static void main(String[] args) {
        operations();
        statements();
        factors();
        ends();
        results();
        Check.finish();
    }

    private static void operations() {
        Check.holds("An operation with / rounds down (to the lesser int)", RunEdgesTest::roundedDown);
        Check.holds("% gives what is left of that", RunEdgesTest::whatIsLeft);
        Check.holds("< > = give 1 for yes, 0 for no", RunEdgesTest::yesAndNo);
    }

    private static void roundedDown() {
        Check.gives("A=5/3;", "1:1");
        Check.gives("A=6/3;", "2:1");
        Check.gives("A=7/3;", "2:1");
        Check.gives("A=-5/3;", "-2:1");
        Check.gives("A=-6/3;", "-2:1");
        Check.gives("A=-7/3;", "-3:1");
        Check.gives("A=5/-3;", "-2:1");
        Check.gives("A=-5/-3;", "1:1");
        Check.gives("A=0/-3;", "0:1");
        Check.gives("A=1/999;", "0:1");
        Check.gives("A=-1/999;", "-1:1");
        Check.gives("A=999/-1;", "-999:1");
        Check.gives("A=-999/-1;", "999:1");
        Check.gives("A=-999/999;", "-1:1");
        Check.gives("A=-998/999;", "-1:1");
    }

    private static void whatIsLeft() {
        Check.gives("A=5%3;", "2:1");
        Check.gives("A=6%3;", "0:1");
        Check.gives("A=7%3;", "1:1");
        Check.gives("A=-5%3;", "1:1");
        Check.gives("A=-6%3;", "0:1");
        Check.gives("A=-7%3;", "2:1");
        Check.gives("A=5%-3;", "-1:1");
        Check.gives("A=-5%-3;", "-2:1");
        Check.gives("A=0%-3;", "0:1");
        Check.gives("A=5%1;", "0:1");
        Check.gives("A=5%-1;", "0:1");
        Check.gives("A=-1%999;", "998:1");
        Check.gives("A=1%-999;", "-998:1");
        Check.gives("A=-999%999;", "0:1");
    }

    private static void yesAndNo() {
        Check.gives("A=2<3;", "1:1");
        Check.gives("A=3<3;", "0:1");
        Check.gives("A=4<3;", "0:1");
        Check.gives("A=2>3;", "0:1");
        Check.gives("A=3>3;", "0:1");
        Check.gives("A=4>3;", "1:1");
        Check.gives("A=2=3;", "0:1");
        Check.gives("A=3=3;", "1:1");
        Check.gives("A=4=3;", "0:1");
        Check.gives("A=-999<999;", "1:1");
        Check.gives("A=-999>999;", "0:1");
    }

    private static void statements() {
        Check.holds("at first one way for that of zeros", RunEdgesTest::atFirst);
        Check.holds("'!' keeps those for which the expression is not 0.", RunEdgesTest::keepsWhatIsNotZero);
        Check.holds("'?' goes on with the first program where it is not 0, otherwise with the second one (or nothing).",
            RunEdgesTest::choosesByZero);
        Check.holds("'*' does its program so many times", RunEdgesTest::repeats);
    }

    private static void atFirst() {
        Check.gives("", "0:1");
        Check.ends("", 0, 1);
        Check.due("total of the empty program", Check.ran("", 0), x -> x.total(0), 1);
        Check.gives("A=(A=0)*(B=0)*(C=0)*(D=0)*(E=0)*(F=0);", "1:1");
    }

    private static void keepsWhatIsNotZero() {
        Check.ends("!-1;", 0, 1);
        Check.ends("!0;", DiceOdds.IMPOSSIBLE, 1);
        Check.ends("!1;", 0, 1);
        Check.ends("!999;", 0, 1);
        Check.gives("A=d3-2;!A;", "-1:1 1:1");
        Check.gives("A=d3-2;!A=0;", "0:1");
        Check.gives("A=d2;!d3>A;", "1:2 2:1");
    }

    private static void choosesByZero() {
        Check.gives("?-1{A=1;}:{A=2;}", "1:1");
        Check.gives("?0{A=1;}:{A=2;}", "2:1");
        Check.gives("?1{A=1;}:{A=2;}", "1:1");
        Check.gives("?-1{A=1;}", "1:1");
        Check.gives("?0{A=1;}", "0:1");
        Check.gives("?0{A=1;}:{}", "0:1");
        Check.gives("?1{}:{A=2;}", "0:1");
        Check.gives("A=d3-2;?A{A=7;}:{A=8;}", "7:2 8:1");
        Check.gives("?d3-2{A=7;}:{A=8;}", "7:2 8:1");
        Check.gives("?d2-1{A=1;}?d2-1{B=1;}A=A+B;", "0:1 1:2 2:1");
        Check.gives("*2{?d3-2{A=A+1;}:{B=B+1;}}!B=1;", "1:1");
        Check.gives("?1{?1{?1{?1{A=7;}}}}", "7:1");
        DiceOdds x = Check.ran("?d3-2{A=7;}:{A=8;}", 0);
        Check.put(x, "?d2-1{A=3;}", 1);
        Check.due("run of another program", x, y -> y.run(1), 0);
        Check.same("its result", Check.result(x, 1), "0:1 3:1");
        Check.due("run again", x, y -> y.run(0), 0);
        Check.same("the result again", Check.result(x, 0), "7:2 8:1");
    }

    private static void repeats() {
        Check.gives("A=1;*0{A=A+A;}", "1:1");
        Check.gives("A=1;*1{A=A+A;}", "2:1");
        Check.gives("A=1;*2{A=A+A;}", "4:1");
        Check.gives("*2{A=A+d2;}", "2:1 3:2 4:1");
        Check.ends("*0{!0;}", 0, 1);
        Check.ends("*1{!0;}", DiceOdds.IMPOSSIBLE, 1);
    }

    private static void factors() {
        Check.holds("m^n", RunEdgesTest::factorOfDice);
        Check.holds("with e, m^(k+1)", RunEdgesTest::factorOfRollsMore);
        Check.holds("of a row how many faces it has", RunEdgesTest::factorOfRow);
        Check.holds("it is the product of all factors in it", RunEdgesTest::factorOfExpression);
        Check.holds("of a program the product of its statements' (1 for none)", RunEdgesTest::factorOfProgram);
        Check.holds("times the least common multiple of those of its two programs (1 for none)",
            RunEdgesTest::factorOfChoice);
        Check.holds("states of each of the two having so many times more ways that it comes to that",
            RunEdgesTest::waysOfChoice);
        Check.holds("of '*' that of its program to the power of NUMBER", RunEdgesTest::factorOfRepetition);
        Check.holds("A program whose factor would be more than 2^31 is none.", RunEdgesTest::greatestFactor);
        Check.holds("(It is looked at when all is read; its place is the text's length.)",
            RunEdgesTest::factorIsLookedAtLast);
    }

    private static void factorOfDice() {
        Check.factor("A=d2;", 2);
        Check.factor("A=1d2;", 2);
        Check.factor("A=6d2;", 64);
        Check.factor("A=d20;", 20);
        Check.factor("A=6d20;", 64000000);
        Check.factor("A=6d20h1;", 64000000);
        Check.factor("A=6d20h6;", 64000000);
        Check.factor("A=6d20l1;", 64000000);
    }

    private static void factorOfRollsMore() {
        Check.factor("A=d2e1;", 4);
        Check.factor("A=d2e2;", 8);
        Check.factor("A=d2e3;", 16);
        Check.factor("A=1d20e3;", 160000);
        Check.gives("A=d2e1>2;", "0:1 1:1");
    }

    private static void factorOfRow() {
        Check.factor("A=[7];", 1);
        Check.factor("A=[7,7];", 2);
        Check.factor("A=[1,2,3,4,5,6,7];", 7);
        Check.factor("A=[0,0,0,0,0,0,0,0];", 8);
    }

    private static void factorOfExpression() {
        Check.factor("A=5;", 1);
        Check.factor("A=B;", 1);
        Check.factor("A=-(d2+[1,2,3])*d5e1;", 150);
        Check.factor("A=0*d6;", 6);
        Check.factor("!d6;", 6);
        Check.factor("A=d2<d3;", 6);
    }

    private static void factorOfProgram() {
        Check.factor("", 1);
        Check.factor("A=1;", 1);
        Check.factor("A=d6;!d4;", 24);
        Check.factor("!0;A=d6;", 6);
    }

    private static void factorOfChoice() {
        Check.factor("?1{}", 1);
        Check.factor("?1{}:{}", 1);
        Check.factor("?d5{}", 5);
        Check.factor("?d5{A=d4;}", 20);
        Check.factor("?d5{}:{A=d6;}", 30);
        Check.factor("?d5{A=d4;}:{A=d4;}", 20);
        Check.factor("?d5{A=d4;}:{A=d6;}", 60);
        Check.factor("?d5{A=d4;}:{A=d7;}", 140);
        Check.factor("?0{A=d4;}:{}", 4);
        Check.factor("?d2{?d2{A=d4;}:{A=d6;}}:{A=d9;}", 144);
    }

    private static void waysOfChoice() {
        Check.gives("?d2-1{A=d4;}:{A=d6;}", "1:5 2:5 3:5 4:5 5:2 6:2");
        Check.gives("?d2-1{A=d2;}", "0:2 1:1 2:1");
        Check.gives("?d2-1{}:{A=d2;}", "0:2 1:1 2:1");
        Check.gives("?d3-1{A=9;}:{A=d2;}", "1:1 2:1 9:4");
        Check.gives("?d2-1{A=d3;}:{A=d3+3;}", "1:1 2:1 3:1 4:1 5:1 6:1");
        Check.gives("?d2-1{!d3=1;A=1;}:{A=2;}", "1:1 2:3");
    }

    private static void factorOfRepetition() {
        Check.factor("*0{A=d6;}", 1);
        Check.factor("*1{A=d6;}", 6);
        Check.factor("*2{A=d6;}", 36);
        Check.factor("*20{A=d2;}", 1048576);
        Check.factor("*20{}", 1);
        Check.factor("*20{*20{*20{*20{A=1;}}}}", 1);
        Check.factor("*0{A=6d20+6d20;}", 1);
        Check.factor("*2{*0{A=6d20+6d20;}A=d3;}", 9);
    }

    /** There is no factor between these: 2147459040, 2^31 and 2147516800 follow one another. */
    private static void greatestFactor() {
        Check.factor("A=2d19+d17+d15+6d3+5d2;", 2147459040L);
        Check.factor("A=" + Check.ALL_COINS + ";", Check.MOST_FALLS);
        Check.bad("A=2d19+2d13+d11+2d10+5d2;", 25);
        Check.bad("A=" + Check.ALL_COINS + "+d2;", 28);
        Check.factor("*20{A=d2;}*11{A=d2;}", Check.MOST_FALLS);
        Check.bad("*20{A=d2;}*12{A=d2;}", 20);
        Check.factor("*10{A=3d2;}A=d2;", Check.MOST_FALLS);
        Check.bad("*11{A=3d2;}", 11);
        Check.factor("?d2{A=6d16+6d2;}:{A=d8;}", Check.MOST_FALLS);
        Check.bad("?d2{A=6d16+6d2;}:{A=d3;}", 24);
        Check.bad("?d2{A=d3;}:{A=6d16+6d2;}", 24);
        Check.bad("?d3{A=6d16+6d2;}:{A=d8;}", 24);
        Check.factor("?1{A=6d16+6d2+d2;}:{A=6d16+6d2+d2;}", Check.MOST_FALLS);
        wrappedFactors();
        widestExpression();
    }

    /** With a factor of 2048000000, so that three parts with 1600, 1600 and 800 values wait for one another. */
    private static void widestExpression() {
        String wide = "((d20-11)*80+d20*4+d4)";
        Check.gives("A=" + wide + "<(" + wide + "<((d20-10)*40+d20*2+d2));", "0:102973 1:101827");
    }

    /** Factors of which an int or a long would keep too little. */
    private static void wrappedFactors() {
        Check.bad("A=6d16+2d16;", 12);
        Check.bad("A=6d16+6d16+3d16+d8;", 20);
        Check.bad("A=6d16+6d16+4d16;", 17);
        Check.bad("*16{A=d16;}", 11);
        Check.bad("*16{A=d16;}A=d3;", 16);
        Check.bad("*20{*20{*20{*20{A=d2;}}}}", 25);
        Check.bad("*20{A=6d20+6d19+6d18;}", 22);
        Check.bad("?1{A=6d16+6d16+4d16;}", 21);
        Check.bad("?1{A=6d16+2d16;}:{A=6d17+2d17;}", 31);
        Check.bad("?1{A=6d16+2d16;}:{A=6d16+2d16;}", 31);
    }

    private static void factorIsLookedAtLast() {
        Check.bad("A=6d20+6d20;", 12);
        Check.bad("A=6d20+6d20;A=1;", 16);
        Check.bad("A=6d20+6d20", 11);
        Check.bad("A=6d20+6d20;!;", 13);
        Check.bad("A=6d20+6d20;A=d21;", 15);
        Check.bad("?1{A=6d20+6d20;}:", 17);
    }

    private static void ends() {
        Check.holds("what an operation gives would not be within -999 .. 999", RunEdgesTest::within);
        Check.holds("or something is divided by 0 (/ or %)", RunEdgesTest::dividedByZero);
        Check.holds("It is OVER, when, for a state and a way,", RunEdgesTest::overForOne);
        Check.holds("MANY, when there are more than 64 states behind a statement", RunEdgesTest::many);
        Check.holds("(behind '?' those of both its programs)", RunEdgesTest::manyOfBoth);
        Check.holds("IMPOSSIBLE, when there are none in the end", RunEdgesTest::impossible);
        Check.holds("Statements are gone through in their order", RunEdgesTest::order);
        Check.holds("(of '?' its expression, then the first program for all its states, then the second one;",
            RunEdgesTest::orderOfChoice);
        Check.holds("a statement for which there are no states does nothing", RunEdgesTest::withoutStates);
        Check.holds("the first statement with one of these decides, OVER before MANY", RunEdgesTest::firstDecides);
    }

    private static void over(String expression) {
        Check.ends("A=" + expression + ";", DiceOdds.OVER, 1);
        Check.ends("!" + expression + ";", DiceOdds.OVER, 1);
        Check.ends("?" + expression + "{}", DiceOdds.OVER, 1);
        Check.ends("A=0*(" + expression + ");", DiceOdds.OVER, 1);
        Check.ends("A=(" + expression + ")=0;", DiceOdds.OVER, 1);
    }

    private static void within() {
        String[] greatest = {"998+1", "999+0", "998--1", "0-(-999)", "333*3", "-27*-37", "999*1", "-999*-1", "-(-999)"};
        for (String expression : greatest) {
            Check.gives("A=" + expression + ";", "999:1");
            Check.gives("A=" + expression + "-1;", "998:1");
            over(expression + "+1");
        }
        String[] least = {"-998-1", "-999+0", "-998+-1", "0-999", "-333*3", "37*-27", "999*-1", "-999/1", "999/-1"};
        for (String expression : least) {
            Check.gives("A=" + expression + ";", "-999:1");
            Check.gives("A=" + expression + "+1;", "-998:1");
            over(expression + "-1");
        }
        String[] beyond = {"500*2", "2*-500", "250*4", "999+999", "-999-999", "999*999", "-999*999", "32*32"};
        for (String expression : beyond) {
            over(expression);
        }
        Check.ends("A=500;B=A+A;", DiceOdds.OVER, 1);
        Check.ends("A=500;B=A+A-1;", DiceOdds.OVER, 1);
        Check.ends("A=500;B=A-1+A;", 0, 1);
        Check.ends("*20{A=A+49;}A=A+19;", 0, 1);
        Check.ends("*20{A=A+49;}A=A+20;", DiceOdds.OVER, 1);
    }

    private static void dividedByZero() {
        for (char sign : "/%".toCharArray()) {
            over("5" + sign + "0");
            over("0" + sign + "0");
            over("-5" + sign + "0");
            over("5" + sign + "-0");
            over("5" + sign + "A");
            over("5" + sign + "(d3-2)");
            Check.ends("A=5" + sign + "1;", 0, 1);
            Check.ends("A=5" + sign + "-1;", 0, 1);
            Check.ends("A=0" + sign + "1;", 0, 1);
        }
    }

    private static void overForOne() {
        Check.ends("A=[997,998]+1;", 0, 2);
        Check.ends("A=[998,999]+1;", DiceOdds.OVER, 1);
        Check.ends("A=[999,998]+1;", DiceOdds.OVER, 1);
        Check.ends("A=9/d20;", 0, 6);
        Check.ends("A=9/(d20-20);", DiceOdds.OVER, 1);
        Check.ends("A=9/(d20-1);", DiceOdds.OVER, 1);
        Check.ends("B=d20;A=9/B;", 0, 20);
        Check.ends("B=d20;A=9/(B-20);", DiceOdds.OVER, 20);
        Check.ends("B=d20;A=9/(B-1);", DiceOdds.OVER, 20);
        Check.ends("B=d20;!9/(B-20);", DiceOdds.OVER, 20);
        Check.ends("B=d20;?9/(B-20){}", DiceOdds.OVER, 20);
        Check.ends("B=d20;!B<20;A=9/(B-20);", 0, 20);
        Check.ends("A=(6d20=120)*999+1;", DiceOdds.OVER, 1);
        Check.ends("A=(6d20=121)*999+1;", 0, 1);
    }

    private static void many() {
        Check.ends("A=d9;B=d7;", 0, 63);
        Check.ends("A=d8;B=d8;", 0, 64);
        Check.ends("A=d13;B=d5;", DiceOdds.MANY, 13);
        Check.ends("A=d9*7+d7;", 0, 63);
        Check.ends("A=d8*8+d8;", 0, 64);
        Check.ends("A=d13*5+d5;", DiceOdds.MANY, 1);
        Check.ends("A=d8;B=d8;C=1;", 0, 64);
        Check.ends("A=d8;B=d8;C=A+B;", 0, 64);
        Check.ends("A=d8;B=d8;C=d2;", DiceOdds.MANY, 64);
        Check.ends("A=d8;B=d8;B=d8;", 0, 64);
        Check.ends("A=d8;B=d8;B=d9;", DiceOdds.MANY, 64);
        Check.ends("A=d13;B=d5;B=0;", DiceOdds.MANY, 13);
        // The first of two states makes 65, the second one only one that is among them already.
        Check.ends("B=d2;B=(2-B)*(d13*5+d5-6);", DiceOdds.MANY, 2);
        Check.ends("B=d2;B=(2-B)*(d8*8+d8-9);", 0, 64);
        Check.ends("A=d13;B=d5;!B=1;", DiceOdds.MANY, 13);
        Check.ends("*2{A=A*8+d8;}", 0, 64);
        Check.ends("*3{A=A*8+d8;}", DiceOdds.MANY, 64);
        Check.ends("E=d2;F=d2;D=d2;C=d2;B=d2;A=d2;", 0, 64);
        Check.ends("E=d2;F=d2;D=d2;C=d2;B=d2;A=d3;", DiceOdds.MANY, 32);
    }

    private static void manyOfBoth() {
        Check.ends("A=d8;?A>4{B=d8;}:{?A>1{B=d8;}:{B=d7;}}", 0, 63);
        Check.ends("A=d8;?A>4{B=d8;}:{B=d8;}", 0, 64);
        Check.ends("A=d8;?A>4{B=d8;}:{?A>1{B=d8;}:{B=d9;}}", DiceOdds.MANY, 33);
        Check.ends("A=d8;?A>4{?A>7{B=d9;}:{B=d8;}}:{B=d8;}", DiceOdds.MANY, 33);
        Check.ends("A=d8;B=d8;?A>1{}:{}", 0, 64);
        Check.ends("A=d8;B=d8;?d2-1{}", 0, 64);
        Check.ends("A=d8;B=d8;?d2-1{}:{C=1;}", DiceOdds.MANY, 64);
        Check.ends("A=d8;B=d8;?A>7{C=d2;C=0;}", 0, 64);
        Check.ends("?d2-1{A=d8*8+d8;}:{A=d8*8+d8;}", 0, 64);
        Check.ends("?d2-1{A=d8*8+d8;}:{A=73;}", DiceOdds.MANY, 64);
        Check.ends("?d2-1{A=d8*8+d8;}:{A=72;}", 0, 64);
        Check.ends("?d2-1{A=d8*8+d8;}:{A=[72,73];}", DiceOdds.MANY, 64);
        Check.ends("?d2-1{A=d8*8+d8;}:{A=[73,72];}", DiceOdds.MANY, 64);
        Check.ends("?d2-1{A=[73,72];}:{A=d8*8+d8;}", DiceOdds.MANY, 64);
        String[] keepingAll = {"!1;", "?1{}", "?0{}", "*1{}", "*0{}", "B=1;"};
        for (String statement : keepingAll) {
            DiceOdds x = Check.ran("A=d8*8+d8;" + statement, 0);
            Check.due("outcomes behind " + statement, x, y -> y.outcomes(0), 64);
            Check.due("the last one behind " + statement, x, y -> y.outcome(0, 63), 72);
        }
    }

    private static void impossible() {
        Check.ends("A=d6;!A>4;", 0, 6);
        Check.ends("A=d6;!A>5;", 0, 6);
        Check.ends("A=d6;!A>6;", DiceOdds.IMPOSSIBLE, 6);
        Check.ends("?d2-1{!0;}", 0, 1);
        Check.ends("?d2-1{}:{!0;}", 0, 1);
        Check.ends("?d2-1{!0;}:{!0;}", DiceOdds.IMPOSSIBLE, 1);
        Check.ends("*20{!0;}", DiceOdds.IMPOSSIBLE, 1);
        Check.ends("*0{!0;}", 0, 1);
        Check.gives("A=d6;!A>5;", "6:1");
    }

    private static void order() {
        Check.ends("B=d20;B=0;A=1/B;", DiceOdds.OVER, 20);
        Check.ends("A=1/B;B=d20;", DiceOdds.OVER, 1);
        Check.ends("B=d20;C=1/B;B=0;", 0, 20);
        Check.ends("*2{A=1/(B-1);B=B+1;}", DiceOdds.OVER, 1);
        Check.ends("*1{A=1/(B-1);B=B+1;}", 0, 1);
        Check.ends("*2{B=B+1;A=1/(B-1);}", DiceOdds.OVER, 1);
        Check.ends("*2{A=d20;C=d4*B;B=1;}", DiceOdds.MANY, 20);
    }

    private static void orderOfChoice() {
        Check.ends("A=d13;?1/(A-13){B=d5;}", DiceOdds.OVER, 13);
        Check.ends("A=d13;?1{B=d5;B=1/(A-1);}", DiceOdds.MANY, 13);
        Check.ends("A=d13;?0{}:{B=d5;B=1/(A-1);}", DiceOdds.MANY, 13);
        Check.ends("A=d14;?A>1{B=d5;}:{A=1/0;}", DiceOdds.MANY, 14);
        Check.ends("A=d14;?A<2{A=1/0;}:{B=d5;}", DiceOdds.OVER, 14);
        Check.ends("A=d14;?A<2{B=d20;}:{A=1/0;}", DiceOdds.OVER, 20);
    }

    private static void withoutStates() {
        Check.ends("!0;A=1/0;", DiceOdds.IMPOSSIBLE, 1);
        Check.ends("!0;!1/0;", DiceOdds.IMPOSSIBLE, 1);
        Check.ends("!0;?1/0{}", DiceOdds.IMPOSSIBLE, 1);
        Check.ends("!0;?1{A=1/0;}:{A=1/0;}", DiceOdds.IMPOSSIBLE, 1);
        Check.ends("!0;*20{A=1/0;}", DiceOdds.IMPOSSIBLE, 1);
        Check.ends("!0;A=6d20;", DiceOdds.IMPOSSIBLE, 1);
        Check.ends("?0{A=1/0;}", 0, 1);
        Check.ends("?1{}:{A=1/0;}", 0, 1);
        Check.ends("?d2-1{!0;A=1/0;}", 0, 1);
        Check.ends("*0{A=1/0;}", 0, 1);
        Check.gives("?0{A=1/0;}:{A=5;}", "5:1");
    }

    private static void firstDecides() {
        Check.ends("A=d13;B=d5;C=1/0;", DiceOdds.MANY, 13);
        Check.ends("A=d13;C=1/0;B=d5;", DiceOdds.OVER, 13);
        Check.ends("A=d13;B=d5;!0;", DiceOdds.MANY, 13);
        Check.ends("A=d13;!0;B=d5;", DiceOdds.IMPOSSIBLE, 13);
        Check.ends("A=d13;B=d5+994;", DiceOdds.MANY, 13);
        Check.ends("A=d13;B=d5+995;", DiceOdds.OVER, 13);
        Check.ends("A=d13;B=d5/(A-13);", DiceOdds.OVER, 13);
        Check.ends("A=d13;B=d5/(A-1);", DiceOdds.OVER, 13);
        Check.ends("A=3d20/(3d20-60);", DiceOdds.OVER, 1);
    }

    private static void results() {
        Check.holds("its OUTCOMES are the values of A, rising", RunEdgesTest::rising);
        Check.holds("each has as many ways as all states with it", RunEdgesTest::waysOfAllStates);
        Check.holds("TOTAL is the sum of them, all divided by what they have in common", RunEdgesTest::inCommon);
        Check.holds("An object is used for at most 512 calls after it has been made", RunEdgesTest::allCalls);
    }

    private static void rising() {
        Check.gives("A=[0,999,5,1];", "0:1 1:1 5:1 999:1");
        Check.gives("A=-[0,999,5,1];", "-999:1 -5:1 -1:1 0:1");
        Check.gives("A=999*(d3-2);", "-999:1 0:1 999:1");
    }

    private static void waysOfAllStates() {
        Check.gives("B=d6;", "0:1");
        Check.gives("B=d6;A=B>2;", "0:1 1:2");
        Check.gives("A=d2;B=d6;!B>A;", "1:5 2:4");
        Check.gives("B=d8;C=d8;A=B>C;", "0:9 1:7");
    }

    private static void inCommon() {
        total("A=0;", "0:1", 1);
        total("A=[3,3];", "3:1", 1);
        total("A=0*6d20;", "0:1", 1);
        total("A=[1,1,2,2];", "1:1 2:1", 2);
        total("A=[1,1,2];", "1:2 2:1", 3);
        total("A=[1,1,2,2,2,2];", "1:1 2:2", 3);
        total("A=[1,1,2,2,2];", "1:2 2:3", 5);
        total("A=" + Check.ALL_COINS + "<32;", "0:2147483647 1:1", Check.MOST_FALLS);
        total("B=" + Check.ALL_COINS + ";", "0:1", 1);
    }

    private static void total(String text, String outcomes, long want) {
        Check.gives(text, outcomes);
        Check.due("total of " + text, Check.ran(text, 0), x -> x.total(0), want);
    }

    private static void allCalls() {
        DiceOdds x = new DiceOdds();
        int calls = 0;
        x.type(Check.packed("A=5d20h3"), 8);
        x.type(Check.packed("*d20/200"), 8);
        x.type(Check.packed("+[0,1,2]"), 8);
        x.type(';', 1);
        calls += 4;
        while (calls + 4 <= 508) {
            int slot = calls / 4 % 3;
            Check.due("read at call " + calls, x, y -> y.read(slot), 1);
            Check.due("run at call " + calls, x, y -> y.run(slot), DiceOdds.OVER);
            Check.due("states at call " + calls, x, y -> y.states(), 1);
            Check.due("print at call " + calls, x, y -> y.print(slot), 25);
            calls += 4;
        }
        x.wipe();
        x.type(Check.packed("A=d6;"), 5);
        x.read(0);
        Check.due("call 512", x, y -> y.run(0), 0);
        Check.same("calls", calls + 4, 512);
    }
}
