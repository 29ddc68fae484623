/** Promises 8 to 10: run, states, factor; and what dice, operations and statements mean. */
public final class RunTest {
    public static void main(String[] args) {
        dice();
        operations();
        statements();
        over();
        many();
        impossible();
        states();
        factors();
        whatItDoes();
        Check.finish();
    }

    private static void dice() {
        Check.gives("A=d4;", "1:1 2:1 3:1 4:1");
        Check.gives("A=2d3;", "2:1 3:2 4:3 5:2 6:1");
        Check.gives("A=2d3h1;", "1:1 2:3 3:5");
        Check.gives("A=2d3l1;", "1:5 2:3 3:1");
        Check.gives("A=2d3h2;", "2:1 3:2 4:3 5:2 6:1");
        Check.gives("A=3d2h2;", "2:1 3:3 4:4");
        Check.gives("A=3d2l2;", "2:4 3:3 4:1");
        Check.gives("A=6d2h1;", "1:1 2:63");
        Check.gives("A=d3e1;", "1:3 2:3 4:1 5:1 6:1");
        Check.gives("A=d2e3;", "1:8 3:4 5:2 7:1 8:1");
        Check.gives("A=[5,5,0,999];", "0:1 5:2 999:1");
        Check.gives("A=[7];", "7:1");
    }

    private static void operations() {
        Check.gives("A=7/2;", "3:1");
        Check.gives("A=-7/2;", "-4:1");
        Check.gives("A=7/-2;", "-4:1");
        Check.gives("A=-7/-2;", "3:1");
        Check.gives("A=7%2;", "1:1");
        Check.gives("A=-7%2;", "1:1");
        Check.gives("A=7%-2;", "-1:1");
        Check.gives("A=-7%-2;", "-1:1");
        Check.gives("A=1-2-3;", "-4:1");
        Check.gives("A=100/10/5;", "2:1");
        Check.gives("A=2+3*4;", "14:1");
        Check.gives("A=2<3;", "1:1");
        Check.gives("A=3<3;", "0:1");
        Check.gives("A=3>3;", "0:1");
        Check.gives("A=3>2;", "1:1");
        Check.gives("A=3=3;", "1:1");
        Check.gives("A=1+1=2;", "1:1");
        Check.gives("A=d6>d6;", "0:7 1:5");
        Check.gives("A=d2*d2-d2;", "-1:1 0:3 1:2 2:1 3:1");
        Check.gives("A=-999;B=999+0;A=A/-1+-B;", "0:1");
    }

    private static void statements() {
        Check.gives("", "0:1");
        Check.gives("B=d6;", "0:1");
        Check.gives("B=d6;A=B+B;", "2:1 4:1 6:1 8:1 10:1 12:1");
        Check.gives("A=2d6;!A>10;", "11:2 12:1");
        Check.gives("A=d3;!d2-1;", "1:1 2:1 3:1");
        Check.gives("!d2<d3;A=d2<d3;", "0:1 1:1");
        Check.gives("A=d3;!d3>A;", "1:2 2:1");
        Check.gives("?d2-1{A=d3;}:{A=d4;}", "1:7 2:7 3:7 4:3");
        Check.gives("?d3-1{A=1;}", "0:1 1:2");
        Check.gives("?1{A=1;}:{A=2;}", "1:1");
        Check.gives("?0{A=1;}:{A=2;}", "2:1");
        Check.gives("?-5{}:{A=2;}", "0:1");
        Check.gives("A=d6;?A>3{?A>5{A=0;}:{A=1;}}:{A=2;}", "0:1 1:2 2:3");
        Check.gives("?d2-1{B=d3;}:{?d2-1{A=d5;}}", "0:15 1:1 2:1 3:1 4:1 5:1");
        Check.gives("*3{A=A+d2;}", "3:1 4:3 5:3 6:1");
        Check.gives("*0{A=9;}", "0:1");
        Check.gives("*2{*3{A=A+1;}B=B+A;}A=B;", "9:1");
        Check.gives("*3{A=A+d6e1;?A>9{A=9;}}", "3:1 4:3 5:6 6:10 7:15 8:18 9:163");
    }

    private static void over() {
        Check.ends("A=999+1;", DiceOdds.OVER, 1);
        Check.ends("A=-999-1;", DiceOdds.OVER, 1);
        Check.ends("A=500*2-1;", DiceOdds.OVER, 1);
        Check.ends("A=32*32;", DiceOdds.OVER, 1);
        Check.ends("A=999*999*0;", DiceOdds.OVER, 1);
        Check.ends("A=1/0;", DiceOdds.OVER, 1);
        Check.ends("A=1%0;", DiceOdds.OVER, 1);
        Check.ends("A=0/0;", DiceOdds.OVER, 1);
        Check.ends("A=1/(d6-6);", DiceOdds.OVER, 1);
        Check.ends("A=0*(1/0);", DiceOdds.OVER, 1);
        Check.ends("!1/0;", DiceOdds.OVER, 1);
        Check.ends("?1/0{}", DiceOdds.OVER, 1);
        Check.ends("A=d6;B=12/(A-6);", DiceOdds.OVER, 6);
        Check.ends("A=d6;B=6/(A-7);", 0, 6);
        Check.ends("*20{A=A+50;}", DiceOdds.OVER, 1);
        Check.ends("*20{A=A+49;}", 0, 1);
        Check.ends("A=6d20*9;", DiceOdds.OVER, 1);
        Check.ends("A=6d20;A=1/0;", DiceOdds.MANY, 1);
        Check.ends("A=d20;B=d20+980*(A=20);", DiceOdds.OVER, 20);
        Check.ends("A=d20;?A>19{A=1/0;}:{B=d20;}", DiceOdds.OVER, 20);
        Check.ends("A=d20;?A<20{B=d20;}:{A=1/0;}", DiceOdds.MANY, 20);
        Check.ends("!0;A=1/0;", DiceOdds.IMPOSSIBLE, 1);
        Check.ends("?0{A=1/0;}", 0, 1);
        Check.ends("?1{}:{A=1/0;}", 0, 1);
        Check.ends("*0{A=1/0;}", 0, 1);
    }

    private static void many() {
        Check.ends("A=2d20;B=0;", 0, 39);
        Check.ends("A=d8;B=d8;", 0, 64);
        Check.ends("A=d8;B=d8;C=d2;", DiceOdds.MANY, 64);
        Check.ends("A=d13;B=d5;", DiceOdds.MANY, 13);
        Check.ends("A=4d17;", DiceOdds.MANY, 1);
        Check.ends("A=4d16;", 0, 61);
        Check.ends("A=d20*d20;", DiceOdds.MANY, 1);
        Check.ends("B=d2;?B=1{A=2d20;}:{A=2d20;}", DiceOdds.MANY, 39);
        Check.ends("?d2-1{A=2d20;}:{A=2d20;}", 0, 39);
        Check.ends("?d2-1{A=2d20;}:{A=2d20+25;}", 0, 64);
        Check.ends("?d2-1{A=2d20;}:{A=2d20+26;}", DiceOdds.MANY, 39);
        Check.ends("A=2d20;?d2-1{}", 0, 39);
    }

    private static void impossible() {
        Check.ends("!0;", DiceOdds.IMPOSSIBLE, 1);
        Check.ends("A=d6;!A>6;", DiceOdds.IMPOSSIBLE, 6);
        Check.ends("A=d6;!A>6;A=d20;B=d20;", DiceOdds.IMPOSSIBLE, 6);
        Check.ends("A=d6;?A>3{!0;}:{!A>3;}", DiceOdds.IMPOSSIBLE, 6);
        Check.ends("A=d6;?A>3{!0;}", 0, 6);
        Check.ends("A=d6;*3{!A>2;A=A-1;}", 0, 6);
        Check.ends("A=d6;*5{!A>2;A=A-1;}", DiceOdds.IMPOSSIBLE, 6);
    }

    private static void states() {
        Check.ends("", 0, 1);
        Check.ends("A=2d6;A=0;", 0, 11);
        Check.ends("B=d6;?B<4{A=d4;}:{A=[1,1,3,9]+B;}!A;", 0, 21);
        Check.ends("A=d6;?A<4{B=d8;B=0;}", 0, 24);
        Check.ends("A=d6;?A<4{}:{B=d10;B=0;}", 0, 30);
        Check.ends("*2{A=d9;A=0;}", 0, 9);
        DiceOdds x = Check.ran("A=d6;", 0);
        Check.put(x, "A=1;", 1);
        Check.due("states stay behind a read", x, y -> y.states(), 6);
        Check.due("run without program", x, y -> y.run(2), Check.STATE);
        Check.due("run without slot", x, y -> y.run(3), Check.ARGUMENT);
        Check.due("states stay behind a run that was none", x, y -> y.states(), 6);
        Check.due("run", x, y -> y.run(1), 0);
        Check.due("states are those of the latest run", x, y -> y.states(), 1);
    }

    private static void factors() {
        Check.factor("", 1);
        Check.factor("A=B+5;", 1);
        Check.factor("A=6d20;", 64000000);
        Check.factor("A=6d20h1;", 64000000);
        Check.factor("A=d20e3;", 160000);
        Check.factor("A=[1,1,2];!d6;", 18);
        Check.factor("A=d6*-d6+(d6);", 216);
        Check.factor("?d2{A=d4;}:{A=d6;}", 24);
        Check.factor("?d2{A=d4;}", 8);
        Check.factor("?d2{}:{A=d4;}", 8);
        Check.factor("*5{A=d3;}", 243);
        Check.factor("*0{A=d3;}", 1);
        Check.factor("*2{?A{A=d3;}:{*2{A=d6;}}}", 1296);
        Check.factor("A=6d2+6d2+6d2+6d2+6d2+d2;", 2147483648L);
        Check.factor("*0{A=6d20*6d20;}", 1);
        DiceOdds x = new DiceOdds();
        Check.due("factor without program", x, y -> y.factor(0), Check.STATE);
        Check.due("factor without slot", x, y -> y.factor(3), Check.ARGUMENT);
        Check.due("factor without slot", x, y -> y.factor(-1), Check.ARGUMENT);
    }

    private static void whatItDoes() {
        DiceOdds x = Check.ran("A=6d2+6d2+6d2+6d2+6d2+d2;", 0);
        Check.due("total of the greatest factor", x, y -> y.total(0), 2147483648L);
        Check.due("ways of the middle", x, y -> y.ways(0, 15), 300540195);
        Check.put(x, "A=999+1;", 0);
        Check.due("a run that is OVER", x, y -> y.run(0), DiceOdds.OVER);
        Check.due("leaves no result", x, y -> y.outcomes(0), Check.STATE);
        Check.due("but the program", x, y -> y.print(0), 8);
        Check.put(x, "A=d6;", 0);
        Check.due("runs behind OVER", x, y -> y.run(0), 0);
        Check.same("result behind OVER", Check.result(x, 0), "1:1 2:1 3:1 4:1 5:1 6:1");
        Check.due("runs again", x, y -> y.run(0), 0);
        Check.same("result again", Check.result(x, 0), "1:1 2:1 3:1 4:1 5:1 6:1");
        Check.due("total again", x, y -> y.total(0), 6);
        for (int slot : Check.NO_SLOTS) {
            Check.due("run of slot " + slot, x, y -> y.run(slot), Check.ARGUMENT);
        }
    }
}
