/** Promises 5 and 6: read, place. */
public final class ReadTest {
    public static void main(String[] args) {
        programs();
        numbers();
        dice();
        rows();
        statements();
        limits();
        factors();
        whatStays();
        Check.finish();
    }

    private static void good(String text, int statements) {
        DiceOdds x = new DiceOdds();
        Check.typeAll(x, text);
        Check.due("read of " + text, x, y -> y.read(1), statements);
        Check.due("text behind read of " + text, x, y -> y.wipe(), 0);
        Check.due("place behind read of " + text, x, y -> y.place(), DiceOdds.NONE);
    }

    private static void bad(String text, int place) {
        DiceOdds x = new DiceOdds();
        Check.typeAll(x, text);
        Check.due("read of " + text, x, y -> y.read(1), Check.ARGUMENT);
        Check.due("place in " + text, x, y -> y.place(), place);
        Check.same("text behind read of " + text, Check.textOf(x), text);
        Check.due("run behind read of " + text, x, y -> y.run(1), Check.STATE);
    }

    private static void programs() {
        good("", 0);
        good("A=0;", 1);
        good("F=A=B;", 1);
        good("!A;", 1);
        good("?A{}", 1);
        good("?A{}:{}", 1);
        good("?A{A=1;}:{B=2;!A;}", 4);
        good("*0{}", 1);
        good("*20{A=1;*3{}}", 3);
        good("A=-(1+2)*[7]%d6<1d6e3/3d8l2-999;", 1);
        bad("A", 1);
        bad("A=", 2);
        bad("A=;", 2);
        bad("A=1", 3);
        bad("A=1;B", 5);
        bad("a=1;", 0);
        bad("G=1;", 0);
        bad("1;", 0);
        bad("A:1;", 1);
        bad("A=G;", 2);
        bad("A=1;;", 4);
        bad("A=1}", 3);
        bad("A=1;}", 4);
        bad("}", 0);
        bad("{A=1;}", 0);
        bad("A=(1;", 4);
        bad("A=(1", 4);
        bad("A=();", 3);
        bad("A=1);", 3);
        bad("A=1+;", 4);
        bad("A=+1;", 2);
        bad("A=1*;", 4);
        bad("A=1**2;", 4);
        bad("A=1<2<3;", 5);
        bad("A=1=2>3;", 5);
        bad("A=AB;", 3);
        bad("A=2A;", 3);
        bad("A=(2)d6;", 5);
        bad("A=Ad6;", 3);
    }

    private static void numbers() {
        good("A=999;", 1);
        bad("A=1000;", 2);
        bad("A=00;", 2);
        bad("A=01;", 2);
        bad("A=1+0999;", 4);
        bad("A=" + Check.times("9", 150) + ";", 2);
        bad("A=1000", 2);
    }

    private static void dice() {
        good("A=6d20h6;", 1);
        good("B=6d20l1;", 1);
        good("C=d2e3;D=1d2e1;E=d6h1;F=1d6l1;", 4);
        bad("A=0d6;", 2);
        bad("A=7d6;", 2);
        bad("A=10d6;", 2);
        bad("A=7d;", 2);
        bad("A=01d6;", 2);
        bad("A=d;", 3);
        bad("A=d", 3);
        bad("A=2d;", 4);
        bad("A=d1;", 3);
        bad("A=d0;", 3);
        bad("A=d21;", 3);
        bad("A=d100;", 3);
        bad("A=d06;", 3);
        bad("A=d6h;", 5);
        bad("A=d6h0;", 5);
        bad("A=d6h2;", 5);
        bad("A=3d6l4;", 6);
        bad("A=3d6l04;", 6);
        bad("A=d6e0;", 5);
        bad("A=d6e4;", 5);
        bad("A=d6e;", 5);
        bad("A=2d6e1;", 5);
        bad("A=2d6e;", 5);
        bad("A=d6h1l1;", 6);
        bad("A=d6d6;", 4);
        bad("A=h1;", 2);
        bad("A=D6;", 3);
    }

    private static void rows() {
        good("A=[0];B=[1,2,3,4,5,6,7,999];", 2);
        bad("A=[];", 3);
        bad("A=[", 3);
        bad("A=[1", 4);
        bad("A=[1;", 4);
        bad("A=[1,];", 5);
        bad("A=[,1];", 3);
        bad("A=[1000];", 3);
        bad("A=[1,02];", 5);
        bad("A=[-1];", 3);
        bad("A=[A];", 3);
        bad("A=[d6];", 3);
        bad("A=2[1];", 3);
        bad("A=[1,2,3,4,5,6,7,8,9];", 18);
        bad("A=[1,2,3,4,5,6,7,8,];", 18);
    }

    private static void statements() {
        bad("!", 1);
        bad("!;", 1);
        bad("!=;", 1);
        bad("?{}", 1);
        bad("?A;", 2);
        bad("?A{", 3);
        bad("?A{A=1;", 7);
        bad("?A{A=1}", 6);
        bad("?A{}:", 5);
        bad("?A{}:A=1;", 5);
        bad("?A{}:{", 6);
        bad("?A{}:{}:{}", 7);
        bad("?A{};", 4);
        bad(":{}", 0);
        bad("*{}", 1);
        bad("*A{}", 1);
        bad("*3;", 2);
        bad("*3A=1;", 2);
        bad("*3{}:{}", 4);
        bad("*3{A=1;", 7);
        bad("*21{}", 1);
        bad("*100{}", 1);
        bad("*00{}", 1);
        bad("*1+1{}", 2);
    }

    private static void limits() {
        good(Check.times("!1;", 24), 24);
        bad(Check.times("!1;", 25), 72);
        bad(Check.times("!1;", 24) + ";", 72);
        bad(Check.times("!1;", 24) + "?", 72);
        bad("?A{" + Check.times("!1;", 12) + "}:{" + Check.times("!1;", 12) + "}", 75);
        good("*1{?A{*1{?A{}:{}}}}", 4);
        bad("*1{?A{*1{?A{}:{*1{}}}}}", 17);
        bad("?A{?A{?A{?A{?A{", 14);
        bad("?A{?A{?A{?A{*1;", 14);
        good("A=-(-(-1))+-(-(-1));", 1);
        good("A=-----1-----1;", 1);
        good("A=(((((1)))))*(((((1)))));", 1);
        bad("A=------1;", 7);
        bad("A=((((((1))))));", 7);
        bad("A=-(-(-(1))));", 7);
        bad("A=-(-(--1)));", 7);
        bad("A=(((((-1)))));", 7);
        good("A=1" + Check.times("+1", 39) + ";", 1);
        bad("A=1" + Check.times("+1", 40) + ";", 82);
        bad("A=1" + Check.times("+1", 39) + "+A;", 82);
        bad("A=1" + Check.times("+1", 39) + "+d6;", 82);
        bad("A=1" + Check.times("+1", 39) + "+2d6;", 82);
        bad("A=1" + Check.times("+1", 39) + "+[1];", 82);
        bad("A=1" + Check.times("+1", 39) + "+(-(1;", 85);
        bad("A=1" + Check.times("+1", 39) + ";!A;", 83);
        good("A=A" + Check.times("+B", 36) + "+2d2+[1,2]+d2;*20{}", 2);
        good("A=1" + Check.times("+1", 19) + ";?1" + Check.times("+1", 19) + "{}", 2);
        bad("A=1" + Check.times("+1", 19) + ";?1" + Check.times("+1", 19) + "{!1;}", 84);
    }

    private static void factors() {
        good("A=6d20+5d2;", 1);
        good("A=6d2+6d2+6d2+6d2+6d2+d2;", 1);
        bad("A=6d2+6d2+6d2+6d2+6d2+2d2;", 26);
        good("*15{A=2d2;}A=d2;", 3);
        bad("*16{A=2d2;}", 11);
        good("*20{A=d2;}*11{B=d2;}", 4);
        bad("*20{A=d2;}*12{B=d2;}", 20);
        good("*0{A=6d20*6d20*6d20*6d20;}", 2);
        good("?A{A=6d20;}:{A=6d20;}", 3);
        good("?A{A=6d20;}:{A=d2;}", 3);
        bad("?A{A=6d20;}:{A=4d19;}", 21);
        bad("?6d20{A=2d20;}", 14);
        bad("!6d20;!6d20", 11);
        bad("!6d20;!6d20;", 12);
        bad("*20{*20{*20{A=6d20;}}}", 22);
    }

    private static void whatStays() {
        DiceOdds x = Check.ran("A=d6;", 0);
        Check.typeAll(x, "A=1;B");
        Check.due("read", x, y -> y.read(0), Check.ARGUMENT);
        Check.due("place", x, y -> y.place(), 5);
        Check.due("result stays behind a wrong read", x, y -> y.outcomes(0), 6);
        int[] noSlots = {-1, 3, Integer.MIN_VALUE, Integer.MAX_VALUE};
        for (int slot : noSlots) {
            Check.due("read of slot " + slot, x, y -> y.read(slot), Check.ARGUMENT);
            Check.due("place stays", x, y -> y.place(), 5);
        }
        Check.due("the text stays", x, y -> y.type(Check.packed("=2;"), 3), 8);
        Check.due("read when it was mended", x, y -> y.read(0), 2);
        Check.due("place stays behind a good read", x, y -> y.place(), 5);
        Check.due("no result behind a read", x, y -> y.outcomes(0), Check.STATE);
        Check.due("the text is empty", x, y -> y.character(0), DiceOdds.NONE);
        Check.due("read of the empty text", x, y -> y.read(2), 0);
        Check.due("run of the empty program", x, y -> y.run(2), 0);
        Check.same("result of the empty program", Check.result(x, 2), "0:1");
        Check.typeAll(x, "!");
        Check.due("read of a wrong text", x, y -> y.read(2), Check.ARGUMENT);
        Check.due("a later place", x, y -> y.place(), 1);
    }
}
