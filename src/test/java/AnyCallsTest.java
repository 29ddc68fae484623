import java.util.List;
import java.util.Random;

/** Any calls with any arguments: nothing but the document's exceptions, and none that the machine throws. */
public final class AnyCallsTest {
    private static final Random CHANCE = new Random(11);
    private static final List<String> TEXTS = List.of("", "A=d6;", "A=2d6;!A>3;", "A=6d20;", "A=1/0;", "!0;",
        "*20{A=A+d2;}", "?d2-1{A=d3;}:{B=1", "A=999+1;", "A=d20*d20;", "A=6d2+6d2+6d2+6d2+6d2+d2;", "A=-d20e3;",
        "*20{*20{*20{*20{A=1-A;}}}}", "A=(d20*40+d20*2+d2)<((d20*40+d20*2+d2)<((d20*40+d20*2+d2)<0));",
        "A=1<2+3*(1<2+3*(1<2+3*(1<2+3*(1<2+3*(1<2+3*d6)))));");

    public static void main(String[] args) {
        for (int run = 0; run < 300; run++) {
            DiceOdds x = new DiceOdds();
            for (int call = 0; call < 512; call++) {
                callSome(x);
            }
        }
        Check.finish();
    }

    private static int some() {
        switch (CHANCE.nextInt(8)) {
            case 0:
                return Integer.MIN_VALUE + CHANCE.nextInt(3);
            case 1:
                return Integer.MAX_VALUE - CHANCE.nextInt(3);
            case 2:
                return CHANCE.nextInt();
            case 3:
                return CHANCE.nextInt(70) - 3;
            default:
                return CHANCE.nextInt(3);
        }
    }

    private static int slot() {
        return CHANCE.nextInt(20) == 0 ? some() : CHANCE.nextInt(3);
    }

    private static void callSome(DiceOdds x) {
        int kind = CHANCE.nextInt(22);
        int a = slot();
        int b = some();
        int c = some();
        switch (kind) {
            case 0: noState("type", x, y -> y.type(CHANCE.nextLong(), b)); break;
            case 1: noState("wipe", x, y -> y.wipe()); break;
            case 2: noState("character", x, y -> y.character(b)); break;
            case 3: allowed("read", x, y -> y.read(a), Check.ARGUMENT); break;
            case 4: noState("place", x, y -> y.place()); break;
            case 5: allowed("print", x, y -> y.print(a), Check.ARGUMENT + Check.STATE); break;
            case 6: allowed("run", x, y -> y.run(a), Check.ARGUMENT + Check.STATE); break;
            case 7: noState("states", x, y -> y.states()); break;
            case 8: allowed("factor", x, y -> y.factor(a), Check.ARGUMENT + Check.STATE); break;
            case 9: allowed("outcomes", x, y -> y.outcomes(a), Check.ARGUMENT + Check.STATE); break;
            case 10: indexed("outcome", x, y -> y.outcome(a, b)); break;
            case 11: indexed("ways", x, y -> y.ways(a, b)); break;
            case 12: allowed("total", x, y -> y.total(a), Check.ARGUMENT + Check.STATE); break;
            case 13: allowed("moment", x, y -> y.moment(a, b), Check.ARGUMENT + Check.STATE); break;
            case 14: indexed("millionths", x, y -> y.millionths(a, b)); break;
            case 15: allowed("percentile", x, y -> y.percentile(a, b, c), Check.ARGUMENT + Check.STATE); break;
            case 16: indexed("sample", x, y -> y.sample(a, CHANCE.nextBoolean() ? b : CHANCE.nextLong())); break;
            case 17: allowed("compare", x, y -> y.compare(a, b, c), Check.ARGUMENT + Check.STATE); break;
            default: typeSome(x); break;
        }
    }

    private static void typeSome(DiceOdds x) {
        if (CHANCE.nextInt(3) > 0) {
            x.wipe();
            Check.typeAll(x, TEXTS.get(CHANCE.nextInt(TEXTS.size())));
            allowed("read", x, y -> y.read(CHANCE.nextInt(3)), Check.ARGUMENT);
        } else {
            long sign = 33 + CHANCE.nextInt(94);
            noState("type", x, y -> y.type(sign, 1));
        }
    }

    private static void indexed(String what, DiceOdds x, Check.Call call) {
        allowed(what, x, call, Check.ARGUMENT + Check.STATE + Check.INDEX);
    }

    private static void noState(String what, DiceOdds x, Check.Call call) {
        allowed(what, x, call, "");
    }

    private static void allowed(String what, DiceOdds x, Check.Call call, String exceptions) {
        String answer = Check.ask(x, call);
        if (answer.startsWith("throws") && !exceptions.contains(answer)) {
            Check.same(what, answer, exceptions);
        }
    }
}
