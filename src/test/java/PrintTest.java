/** Promise 7: print. */
public final class PrintTest {
    public static void main(String[] args) {
        brackets();
        statements();
        whatItDoes();
        wrongCalls();
        Check.finish();
    }

    private static void printed(String text, String want) {
        DiceOdds x = Check.with(text, 2);
        Check.due("print of " + text, x, y -> y.print(2), want.length());
        Check.same("text printed of " + text, Check.textOf(x), want);
    }

    private static void expression(String text, String want) {
        printed("A=" + text + ";", "A=" + want + ";");
    }

    private static void brackets() {
        expression("((((1))))", "1");
        expression("(A+B)+C", "A+B+C");
        expression("A+(B+C)", "A+(B+C)");
        expression("A-(B-C)", "A-(B-C)");
        expression("(A-B)-(C)", "A-B-C");
        expression("A+(B*C)", "A+B*C");
        expression("(A+B)*C", "(A+B)*C");
        expression("(A*B)/C", "A*B/C");
        expression("A/(B%C)", "A/(B%C)");
        expression("(A/B)+(C%D)", "A/B+C%D");
        expression("(A<B)<C", "(A<B)<C");
        expression("A=(B>C)", "A=(B>C)");
        expression("(A=B)+1", "(A=B)+1");
        expression("1+(A=B)", "1+(A=B)");
        expression("(A+1)<(B*2)", "A+1<B*2");
        expression("-(A+B)", "-(A+B)");
        expression("-(A*B)", "-(A*B)");
        expression("-(A<B)", "-(A<B)");
        expression("(-A)*B", "-A*B");
        expression("A*(-B)", "A*-B");
        expression("A-(-(B))", "A--B");
        expression("-(-(-A))", "---A");
        expression("-(2d6)", "-2d6");
        expression("(d6h1)+([1,2])", "d6h1+[1,2]");
        expression("1d6+1d6e1+1d8l1+2d4l2", "d6+d6e1+d8l1+2d4l2");
        expression("[0,10,999]", "[0,10,999]");
    }

    private static void statements() {
        printed("", "");
        printed("?A{}:{}", "?A{}");
        printed("?A{}:{B=1;}", "?A{}:{B=1;}");
        printed("?(A){A=1;B=2;}:{!(C);}D=0;", "?A{A=1;B=2;}:{!C;}D=0;");
        printed("*0{}*20{*1{?A{}:{}}}", "*0{}*20{*1{?A{}}}");
        printed("!(A=B);", "!A=B;");
        printed("F=(A=B);", "F=A=B;");
    }

    private static void whatItDoes() {
        DiceOdds x = Check.ran("A=(1d6);", 0);
        Check.typeAll(x, "what_was_typed_before");
        Check.due("print", x, y -> y.print(0), 5);
        Check.same("only what is printed is the text", Check.textOf(x), "A=d6;");
        Check.due("the result stays", x, y -> y.outcomes(0), 6);
        Check.due("the place stays", x, y -> y.place(), DiceOdds.NONE);
        Check.due("typing goes on behind it", x, y -> y.type(Check.packed("!A"), 2), 7);
        Check.due("print again", x, y -> y.print(0), 5);
        Check.due("what is printed can be read", x, y -> y.read(1), 1);
        Check.due("and run", x, y -> y.run(1), 0);
    }

    private static void wrongCalls() {
        DiceOdds x = Check.with("A=1;", 0);
        Check.typeAll(x, "B");
        for (int slot : Check.NO_SLOTS) {
            Check.due("print of slot " + slot, x, y -> y.print(slot), Check.ARGUMENT);
        }
        Check.due("print of a slot without program", x, y -> y.print(1), Check.STATE);
        Check.same("the text stays", Check.textOf(x), "B");
    }
}
