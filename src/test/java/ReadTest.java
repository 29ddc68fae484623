/** Promises 5 and 6: read, place. */
public final class ReadTest {
    public static void main(String[] args) {
        programs();
        numbers();
        dice();
        rows();
        statements();
        limits();
        factors();
        whatStays();
        Check.finish();
    }

    private static void programs() {
        Check.good("", 0);
        Check.good("A=0;", 1);
        Check.good("F=A=B;", 1);
        Check.good("!A;", 1);
        Check.good("?A{}", 1);
        Check.good("?A{}:{}", 1);
        Check.good("?A{A=1;}:{B=2;!A;}", 4);
        Check.good("*0{}", 1);
        Check.good("*20{A=1;*3{}}", 3);
        Check.good("A=-(1+2)*[7]%d6<1d6e3/3d8l2-999;", 1);
        Check.bad("A", 1);
        Check.bad("A=", 2);
        Check.bad("A=;", 2);
        Check.bad("A=1", 3);
        Check.bad("A=1;B", 5);
        Check.bad("a=1;", 0);
        Check.bad("G=1;", 0);
        Check.bad("1;", 0);
        Check.bad("A:1;", 1);
        Check.bad("A=G;", 2);
        Check.bad("A=1;;", 4);
        Check.bad("A=1}", 3);
        Check.bad("A=1;}", 4);
        Check.bad("}", 0);
        Check.bad("{A=1;}", 0);
        Check.bad("A=(1;", 4);
        Check.bad("A=(1", 4);
        Check.bad("A=();", 3);
        Check.bad("A=1);", 3);
        Check.bad("A=1+;", 4);
        Check.bad("A=+1;", 2);
        Check.bad("A=1*;", 4);
        Check.bad("A=1**2;", 4);
        Check.bad("A=1<2<3;", 5);
        Check.bad("A=1=2>3;", 5);
        Check.bad("A=AB;", 3);
        Check.bad("A=2A;", 3);
        Check.bad("A=(2)d6;", 5);
        Check.bad("A=Ad6;", 3);
    }

    private static void numbers() {
        Check.good("A=999;", 1);
        Check.bad("A=1000;", 2);
        Check.bad("A=00;", 2);
        Check.bad("A=01;", 2);
        Check.bad("A=1+0999;", 4);
        Check.bad("A=" + Check.times("9", 150) + ";", 2);
        Check.bad("A=1000", 2);
    }

    private static void dice() {
        Check.good("A=6d20h6;", 1);
        Check.good("B=6d20l1;", 1);
        Check.good("C=d2e3;D=1d2e1;E=d6h1;F=1d6l1;", 4);
        Check.bad("A=0d6;", 2);
        Check.bad("A=7d6;", 2);
        Check.bad("A=10d6;", 2);
        Check.bad("A=7d;", 2);
        Check.bad("A=01d6;", 2);
        Check.bad("A=d;", 3);
        Check.bad("A=d", 3);
        Check.bad("A=2d;", 4);
        Check.bad("A=d1;", 3);
        Check.bad("A=d0;", 3);
        Check.bad("A=d21;", 3);
        Check.bad("A=d100;", 3);
        Check.bad("A=d06;", 3);
        Check.bad("A=d6h;", 5);
        Check.bad("A=d6h0;", 5);
        Check.bad("A=d6h2;", 5);
        Check.bad("A=3d6l4;", 6);
        Check.bad("A=3d6l04;", 6);
        Check.bad("A=d6e0;", 5);
        Check.bad("A=d6e4;", 5);
        Check.bad("A=d6e;", 5);
        Check.bad("A=2d6e1;", 5);
        Check.bad("A=2d6e;", 5);
        Check.bad("A=d6h1l1;", 6);
        Check.bad("A=d6d6;", 4);
        Check.bad("A=h1;", 2);
        Check.bad("A=D6;", 3);
    }

    private static void rows() {
        Check.good("A=[0];B=[1,2,3,4,5,6,7,999];", 2);
        Check.bad("A=[];", 3);
        Check.bad("A=[", 3);
        Check.bad("A=[1", 4);
        Check.bad("A=[1;", 4);
        Check.bad("A=[1,];", 5);
        Check.bad("A=[,1];", 3);
        Check.bad("A=[1000];", 3);
        Check.bad("A=[1,02];", 5);
        Check.bad("A=[-1];", 3);
        Check.bad("A=[A];", 3);
        Check.bad("A=[d6];", 3);
        Check.bad("A=2[1];", 3);
        Check.bad("A=[1,2,3,4,5,6,7,8,9];", 18);
        Check.bad("A=[1,2,3,4,5,6,7,8,];", 18);
    }

    private static void statements() {
        Check.bad("!", 1);
        Check.bad("!;", 1);
        Check.bad("!=;", 1);
        Check.bad("?{}", 1);
        Check.bad("?A;", 2);
        Check.bad("?A{", 3);
        Check.bad("?A{A=1;", 7);
        Check.bad("?A{A=1}", 6);
        Check.bad("?A{}:", 5);
        Check.bad("?A{}:A=1;", 5);
        Check.bad("?A{}:{", 6);
        Check.bad("?A{}:{}:{}", 7);
        Check.bad("?A{};", 4);
        Check.bad(":{}", 0);
        Check.bad("*{}", 1);
        Check.bad("*A{}", 1);
        Check.bad("*3;", 2);
        Check.bad("*3A=1;", 2);
        Check.bad("*3{}:{}", 4);
        Check.bad("*3{A=1;", 7);
        Check.bad("*21{}", 1);
        Check.bad("*100{}", 1);
        Check.bad("*00{}", 1);
        Check.bad("*1+1{}", 2);
    }

    private static void limits() {
        Check.good(Check.times("!1;", 24), 24);
        Check.bad(Check.times("!1;", 25), 72);
        Check.bad(Check.times("!1;", 24) + ";", 72);
        Check.bad(Check.times("!1;", 24) + "?", 72);
        Check.bad("?A{" + Check.times("!1;", 12) + "}:{" + Check.times("!1;", 12) + "}", 75);
        Check.good("*1{?A{*1{?A{}:{}}}}", 4);
        Check.bad("*1{?A{*1{?A{}:{*1{}}}}}", 17);
        Check.bad("?A{?A{?A{?A{?A{", 14);
        Check.bad("?A{?A{?A{?A{*1;", 14);
        Check.good("A=-(-(-1))+-(-(-1));", 1);
        Check.good("A=-----1-----1;", 1);
        Check.good("A=(((((1)))))*(((((1)))));", 1);
        Check.bad("A=------1;", 7);
        Check.bad("A=((((((1))))));", 7);
        Check.bad("A=-(-(-(1))));", 7);
        Check.bad("A=-(-(--1)));", 7);
        Check.bad("A=(((((-1)))));", 7);
        Check.good("A=1" + Check.times("+1", 39) + ";", 1);
        Check.bad("A=1" + Check.times("+1", 40) + ";", 82);
        Check.bad("A=1" + Check.times("+1", 39) + "+A;", 82);
        Check.bad("A=1" + Check.times("+1", 39) + "+d6;", 82);
        Check.bad("A=1" + Check.times("+1", 39) + "+2d6;", 82);
        Check.bad("A=1" + Check.times("+1", 39) + "+[1];", 82);
        Check.bad("A=1" + Check.times("+1", 39) + "+(-(1;", 85);
        Check.bad("A=1" + Check.times("+1", 39) + ";!A;", 83);
        Check.good("A=A" + Check.times("+B", 36) + "+2d2+[1,2]+d2;*20{}", 2);
        Check.good("A=1" + Check.times("+1", 19) + ";?1" + Check.times("+1", 19) + "{}", 2);
        Check.bad("A=1" + Check.times("+1", 19) + ";?1" + Check.times("+1", 19) + "{!1;}", 84);
    }

    private static void factors() {
        Check.good("A=6d20+5d2;", 1);
        Check.good("A=6d2+6d2+6d2+6d2+6d2+d2;", 1);
        Check.bad("A=6d2+6d2+6d2+6d2+6d2+2d2;", 26);
        Check.good("*15{A=2d2;}A=d2;", 3);
        Check.bad("*16{A=2d2;}", 11);
        Check.good("*20{A=d2;}*11{B=d2;}", 4);
        Check.bad("*20{A=d2;}*12{B=d2;}", 20);
        Check.good("*0{A=6d20*6d20*6d20*6d20;}", 2);
        Check.good("?A{A=6d20;}:{A=6d20;}", 3);
        Check.good("?A{A=6d20;}:{A=d2;}", 3);
        Check.bad("?A{A=6d20;}:{A=4d19;}", 21);
        Check.bad("?6d20{A=2d20;}", 14);
        Check.bad("!6d20;!6d20", 11);
        Check.bad("!6d20;!6d20;", 12);
        Check.bad("*20{*20{*20{A=6d20;}}}", 22);
    }

    private static void whatStays() {
        DiceOdds x = Check.ran("A=d6;", 0);
        Check.typeAll(x, "A=1;B");
        Check.due("read", x, y -> y.read(0), Check.ARGUMENT);
        Check.due("place", x, y -> y.place(), 5);
        Check.due("result stays behind a wrong read", x, y -> y.outcomes(0), 6);
        for (int slot : Check.NO_SLOTS) {
            Check.due("read of slot " + slot, x, y -> y.read(slot), Check.ARGUMENT);
            Check.due("place stays", x, y -> y.place(), 5);
        }
        Check.due("the text stays", x, y -> y.type(Check.packed("=2;"), 3), 8);
        Check.due("read when it was mended", x, y -> y.read(0), 2);
        Check.due("place stays behind a good read", x, y -> y.place(), 5);
        Check.due("no result behind a read", x, y -> y.outcomes(0), Check.STATE);
        Check.due("the text is empty", x, y -> y.character(0), DiceOdds.NONE);
        Check.due("read of the empty text", x, y -> y.read(2), 0);
        Check.due("run of the empty program", x, y -> y.run(2), 0);
        Check.same("result of the empty program", Check.result(x, 2), "0:1");
        Check.typeAll(x, "!");
        Check.due("read of a wrong text", x, y -> y.read(2), Check.ARGUMENT);
        Check.due("a later place", x, y -> y.place(), 1);
    }
}
