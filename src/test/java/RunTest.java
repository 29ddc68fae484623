/** Promises 8 to 10: run, states, factor; and what dice, operations and statements mean. */
public final class RunTest {
    public static void main(String[] args) {
        dice();
        operations();
        statements();
        over();
        many();
        impossible();
        states();
        factors();
        whatItDoes();
        Check.finish();
    }

    private static void gives(String text, String want) {
        DiceOdds x = Check.ran(text, 1);
        Check.same("result of " + text, Check.result(x, 1), want);
    }

    private static void ends(String text, int end, int states) {
        DiceOdds x = Check.with(text, 1);
        Check.due("run of " + text, x, y -> y.run(1), end);
        Check.due("states of " + text, x, y -> y.states(), states);
        Check.due("result of " + text, x, y -> y.total(1), end == 0 ? x.total(1) : Check.STATE);
    }

    private static void dice() {
        gives("A=d4;", "1:1 2:1 3:1 4:1");
        gives("A=2d3;", "2:1 3:2 4:3 5:2 6:1");
        gives("A=2d3h1;", "1:1 2:3 3:5");
        gives("A=2d3l1;", "1:5 2:3 3:1");
        gives("A=2d3h2;", "2:1 3:2 4:3 5:2 6:1");
        gives("A=3d2h2;", "2:1 3:3 4:4");
        gives("A=3d2l2;", "2:4 3:3 4:1");
        gives("A=6d2h1;", "1:1 2:63");
        gives("A=d3e1;", "1:3 2:3 4:1 5:1 6:1");
        gives("A=d2e3;", "1:8 3:4 5:2 7:1 8:1");
        gives("A=[5,5,0,999];", "0:1 5:2 999:1");
        gives("A=[7];", "7:1");
    }

    private static void operations() {
        gives("A=7/2;", "3:1");
        gives("A=-7/2;", "-4:1");
        gives("A=7/-2;", "-4:1");
        gives("A=-7/-2;", "3:1");
        gives("A=7%2;", "1:1");
        gives("A=-7%2;", "1:1");
        gives("A=7%-2;", "-1:1");
        gives("A=-7%-2;", "-1:1");
        gives("A=1-2-3;", "-4:1");
        gives("A=100/10/5;", "2:1");
        gives("A=2+3*4;", "14:1");
        gives("A=2<3;", "1:1");
        gives("A=3<3;", "0:1");
        gives("A=3>3;", "0:1");
        gives("A=3>2;", "1:1");
        gives("A=3=3;", "1:1");
        gives("A=1+1=2;", "1:1");
        gives("A=d6>d6;", "0:7 1:5");
        gives("A=d2*d2-d2;", "-1:1 0:3 1:2 2:1 3:1");
        gives("A=-999;B=999+0;A=A/-1+-B;", "0:1");
    }

    private static void statements() {
        gives("", "0:1");
        gives("B=d6;", "0:1");
        gives("B=d6;A=B+B;", "2:1 4:1 6:1 8:1 10:1 12:1");
        gives("A=2d6;!A>10;", "11:2 12:1");
        gives("A=d3;!d2-1;", "1:1 2:1 3:1");
        gives("!d2<d3;A=d2<d3;", "0:1 1:1");
        gives("A=d3;!d3>A;", "1:2 2:1");
        gives("?d2-1{A=d3;}:{A=d4;}", "1:7 2:7 3:7 4:3");
        gives("?d3-1{A=1;}", "0:1 1:2");
        gives("?1{A=1;}:{A=2;}", "1:1");
        gives("?0{A=1;}:{A=2;}", "2:1");
        gives("?-5{}:{A=2;}", "0:1");
        gives("A=d6;?A>3{?A>5{A=0;}:{A=1;}}:{A=2;}", "0:1 1:2 2:3");
        gives("?d2-1{B=d3;}:{?d2-1{A=d5;}}", "0:15 1:1 2:1 3:1 4:1 5:1");
        gives("*3{A=A+d2;}", "3:1 4:3 5:3 6:1");
        gives("*0{A=9;}", "0:1");
        gives("*2{*3{A=A+1;}B=B+A;}A=B;", "9:1");
        gives("*3{A=A+d6e1;?A>9{A=9;}}", "3:1 4:3 5:6 6:10 7:15 8:18 9:163");
    }

    private static void over() {
        ends("A=999+1;", DiceOdds.OVER, 1);
        ends("A=-999-1;", DiceOdds.OVER, 1);
        ends("A=500*2-1;", DiceOdds.OVER, 1);
        ends("A=32*32;", DiceOdds.OVER, 1);
        ends("A=999*999*0;", DiceOdds.OVER, 1);
        ends("A=1/0;", DiceOdds.OVER, 1);
        ends("A=1%0;", DiceOdds.OVER, 1);
        ends("A=0/0;", DiceOdds.OVER, 1);
        ends("A=1/(d6-6);", DiceOdds.OVER, 1);
        ends("A=0*(1/0);", DiceOdds.OVER, 1);
        ends("!1/0;", DiceOdds.OVER, 1);
        ends("?1/0{}", DiceOdds.OVER, 1);
        ends("A=d6;B=12/(A-6);", DiceOdds.OVER, 6);
        ends("A=d6;B=6/(A-7);", 0, 6);
        ends("*20{A=A+50;}", DiceOdds.OVER, 1);
        ends("*20{A=A+49;}", 0, 1);
        ends("A=6d20*9;", DiceOdds.OVER, 1);
        ends("A=6d20;A=1/0;", DiceOdds.MANY, 1);
        ends("A=d20;B=d20+980*(A=20);", DiceOdds.OVER, 20);
        ends("A=d20;?A>19{A=1/0;}:{B=d20;}", DiceOdds.OVER, 20);
        ends("A=d20;?A<20{B=d20;}:{A=1/0;}", DiceOdds.MANY, 20);
        ends("!0;A=1/0;", DiceOdds.IMPOSSIBLE, 1);
        ends("?0{A=1/0;}", 0, 1);
        ends("?1{}:{A=1/0;}", 0, 1);
        ends("*0{A=1/0;}", 0, 1);
    }

    private static void many() {
        ends("A=2d20;B=0;", 0, 39);
        ends("A=d8;B=d8;", 0, 64);
        ends("A=d8;B=d8;C=d2;", DiceOdds.MANY, 64);
        ends("A=d13;B=d5;", DiceOdds.MANY, 13);
        ends("A=4d17;", DiceOdds.MANY, 1);
        ends("A=4d16;", 0, 61);
        ends("A=d20*d20;", DiceOdds.MANY, 1);
        ends("B=d2;?B=1{A=2d20;}:{A=2d20;}", DiceOdds.MANY, 39);
        ends("?d2-1{A=2d20;}:{A=2d20;}", 0, 39);
        ends("?d2-1{A=2d20;}:{A=2d20+25;}", 0, 64);
        ends("?d2-1{A=2d20;}:{A=2d20+26;}", DiceOdds.MANY, 39);
        ends("A=2d20;?d2-1{}", 0, 39);
    }

    private static void impossible() {
        ends("!0;", DiceOdds.IMPOSSIBLE, 1);
        ends("A=d6;!A>6;", DiceOdds.IMPOSSIBLE, 6);
        ends("A=d6;!A>6;A=d20;B=d20;", DiceOdds.IMPOSSIBLE, 6);
        ends("A=d6;?A>3{!0;}:{!A>3;}", DiceOdds.IMPOSSIBLE, 6);
        ends("A=d6;?A>3{!0;}", 0, 6);
        ends("A=d6;*3{!A>2;A=A-1;}", 0, 6);
        ends("A=d6;*5{!A>2;A=A-1;}", DiceOdds.IMPOSSIBLE, 6);
    }

    private static void states() {
        ends("", 0, 1);
        ends("A=2d6;A=0;", 0, 11);
        ends("B=d6;?B<4{A=d4;}:{A=[1,1,3,9]+B;}!A;", 0, 21);
        ends("A=d6;?A<4{B=d8;B=0;}", 0, 24);
        ends("A=d6;?A<4{}:{B=d10;B=0;}", 0, 30);
        ends("*2{A=d9;A=0;}", 0, 9);
        DiceOdds x = Check.ran("A=d6;", 0);
        Check.put(x, "A=1;", 1);
        Check.due("states stay behind a read", x, y -> y.states(), 6);
        Check.due("run without program", x, y -> y.run(2), Check.STATE);
        Check.due("run without slot", x, y -> y.run(3), Check.ARGUMENT);
        Check.due("states stay behind a run that was none", x, y -> y.states(), 6);
        Check.due("run", x, y -> y.run(1), 0);
        Check.due("states are those of the latest run", x, y -> y.states(), 1);
    }

    private static void factor(String text, long want) {
        DiceOdds x = Check.with(text, 0);
        Check.due("factor of " + text, x, y -> y.factor(0), want);
    }

    private static void factors() {
        factor("", 1);
        factor("A=B+5;", 1);
        factor("A=6d20;", 64000000);
        factor("A=6d20h1;", 64000000);
        factor("A=d20e3;", 160000);
        factor("A=[1,1,2];!d6;", 18);
        factor("A=d6*-d6+(d6);", 216);
        factor("?d2{A=d4;}:{A=d6;}", 24);
        factor("?d2{A=d4;}", 8);
        factor("?d2{}:{A=d4;}", 8);
        factor("*5{A=d3;}", 243);
        factor("*0{A=d3;}", 1);
        factor("*2{?A{A=d3;}:{*2{A=d6;}}}", 1296);
        factor("A=6d2+6d2+6d2+6d2+6d2+d2;", 2147483648L);
        factor("*0{A=6d20*6d20;}", 1);
        DiceOdds x = new DiceOdds();
        Check.due("factor without program", x, y -> y.factor(0), Check.STATE);
        Check.due("factor without slot", x, y -> y.factor(3), Check.ARGUMENT);
        Check.due("factor without slot", x, y -> y.factor(-1), Check.ARGUMENT);
    }

    private static void whatItDoes() {
        DiceOdds x = Check.ran("A=6d2+6d2+6d2+6d2+6d2+d2;", 0);
        Check.due("total of the greatest factor", x, y -> y.total(0), 2147483648L);
        Check.due("ways of the middle", x, y -> y.ways(0, 15), 300540195);
        Check.put(x, "A=999+1;", 0);
        Check.due("a run that is OVER", x, y -> y.run(0), DiceOdds.OVER);
        Check.due("leaves no result", x, y -> y.outcomes(0), Check.STATE);
        Check.due("but the program", x, y -> y.print(0), 8);
        Check.put(x, "A=d6;", 0);
        Check.due("runs behind OVER", x, y -> y.run(0), 0);
        Check.same("result behind OVER", Check.result(x, 0), "1:1 2:1 3:1 4:1 5:1 6:1");
        Check.due("runs again", x, y -> y.run(0), 0);
        Check.same("result again", Check.result(x, 0), "1:1 2:1 3:1 4:1 5:1 6:1");
        Check.due("total again", x, y -> y.total(0), 6);
        int[] noSlots = {-1, 3, Integer.MIN_VALUE, Integer.MAX_VALUE};
        for (int slot : noSlots) {
            Check.due("run of slot " + slot, x, y -> y.run(slot), Check.ARGUMENT);
        }
    }
}
