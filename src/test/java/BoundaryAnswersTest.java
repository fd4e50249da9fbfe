/** The answers and the grammar under "What it is": each answer as a number, and each form of a statement. */
public final class BoundaryAnswersTest {
    private static final Check check = new Check();

    public static void main(String[] args) {
        ok();
        sealed();
        kind();
        value();
        full();
        syntax();
        redefined();
        undefined();
        incomplete();
        notCompiled();
        mode();
        shortestStatements();
        everyExpression();
        check.finish();
    }

    private static void token(RtlSynth x, int kind, int value, int answer) {
        check.due("token(" + kind + ", " + value + ")", x.token(kind, value), answer);
    }

    private static void ok() {
        check.about("`OK = 0`");
        RtlSynth x = new RtlSynth(8);
        token(x, 10, 0, 0);
        token(x, 1, 0, 0);
        check.due("compile()", x.compile(), 0);
        check.due("clock(0, 1)", x.clock(0, 1), 0);
        check.due("clock(1, 8)", x.clock(1, 8), 0);
    }

    private static void sealed() {
        check.about("`ERR_SEALED = -1` (program already compiled)");
        RtlSynth x = check.compiled(8, "");
        token(x, 9, 0, -1);
        check.due("compile()", x.compile(), -1);
    }

    private static void kind() {
        check.about("`ERR_KIND = -2` (kind not 1..11)");
        token(new RtlSynth(8), 0, 0, -2);
        token(new RtlSynth(8), 12, 0, -2);
    }

    private static void value() {
        check.about("`ERR_VALUE = -3` (value outside the allowed range)");
        token(new RtlSynth(8), 9, -1, -3);
        token(new RtlSynth(8), 9, 8, -3);
        RtlSynth x = check.compiled(8, "");
        check.due("clock(0, 0)", x.clock(0, 0), -3);
        check.due("clock(1, 9)", x.clock(1, 9), -3);
    }

    private static void full() {
        check.about("`ERR_FULL = -4` (token count equals token limit)");
        token(State.FULL.make(), 9, 0, -4);
        token(State.FULL_AND_OPEN.make(), 1, 0, -4);
    }

    private static void syntax() {
        check.about("`ERR_SYNTAX = -5` (token of the wrong class for need)");
        token(new RtlSynth(8), 1, 0, -5);
        token(new RtlSynth(8), 8, 0, -5);
        token(check.fed(8, "WIREDEF 0"), 9, 1, -5);
        token(check.fed(8, "WIREDEF 0"), 11, 1, -5);
    }

    private static void redefined() {
        check.about("`ERR_REDEF = -6` (wire or output already defined)");
        token(check.fed(8, "WIREDEF 0 NUM 0"), 9, 0, -6);
        token(check.fed(8, "OUTDEF 0 NUM 0"), 10, 0, -6);
    }

    private static void undefined() {
        check.about("`ERR_UNDEF = -7` (wire read before it is defined)");
        token(check.fed(8, "OUTDEF 0"), 4, 0, -7);
        token(check.fed(8, "WIREDEF 0"), 4, 0, -7);
    }

    private static void incomplete() {
        check.about("`ERR_INCOMPLETE = -8` (compile while need > 0)");
        check.due("compile()", check.fed(8, "WIREDEF 0").compile(), -8);
        check.due("compile()", check.fed(8, "REGSET 0 NUM 0").compile(), -8);
    }

    private static void notCompiled() {
        check.about("`ERR_NOT_COMPILED = -9` (clock before compile)");
        check.due("clock(0, 1)", new RtlSynth(8).clock(0, 1), -9);
        check.due("clock(1, 8)", new RtlSynth(8).clock(1, 8), -9);
    }

    private static void mode() {
        check.about("`ERR_MODE = -10` (mode not 0 or 1)");
        RtlSynth x = check.compiled(8, "");
        check.due("clock(-1, 1)", x.clock(-1, 1), -10);
        check.due("clock(2, 1)", x.clock(2, 1), -10);
    }

    private static void shortestStatements() {
        check.about("program := stmt*");
        RtlSynth x = check.compiled(8, "WIREDEF 7 NUM 1 OUTDEF 3 NUM 2 REGSET 7 NUM 3 NUM 4");
        check.due("getWire(7)", x.getWire(7), 1);
        check.due("getOutput(3)", x.getOutput(3), 2);
        check.due("getNext(7)", x.getNext(7), 4);
        RtlSynth most = new RtlSynth(48);
        for (int w = 0; w < 8; w++) check.feed(most, "WIREDEF " + w + " NUM " + (10 + w));
        for (int o = 0; o < 4; o++) check.feed(most, "OUTDEF " + o + " WIRE " + (7 - o));
        for (int r = 0; r < 8; r++) check.feed(most, "REGSET " + r + " WIRE 0 WIRE " + r);
        check.due("getTokenCount() of 20 statements", most.getTokenCount(), 48);
        check.due("compile()", most.compile(), RtlSynth.OK);
        for (int o = 0; o < 4; o++) check.due("getOutput(" + o + ")", most.getOutput(o), 17 - o);
        for (int r = 0; r < 8; r++) check.due("getNext(" + r + ")", most.getNext(r), 10 + r);
    }

    /** Every expression as guard, as value, and as each operand of another one. */
    private static void everyExpression() {
        check.about("where a, b and c are the operand values in order", "every form of an expression at every place");
        String[] forms = {"NUM 7", "IN 3", "REG 7", "WIRE 0", "NOT NUM 9", "NEG NUM 9", "SHL 7 NUM 1", "SHR 7 NUM 128",
            "BIT 7 NUM 128", "ADD NUM 1 NUM 2", "SUB NUM 1 NUM 2", "AND NUM 3 NUM 2", "OR NUM 1 NUM 2",
            "XOR NUM 1 NUM 2", "EQ NUM 1 NUM 1", "LTU NUM 1 NUM 2", "LTS NUM 128 NUM 2", "MUX NUM 1 NUM 2 NUM 3"};
        int[] worth = {7, 104, 208, 42, 246, 247, 128, 1, 1, 3, 255, 2, 3, 3, 1, 1, 1, 2};
        for (int i = 0; i < forms.length; i++) {
            int j = (i + 5) % forms.length;
            String both = forms[i] + " " + forms[j];
            RtlSynth x = check.compiled(48, "WIREDEF 0 NUM 42 REGSET 0 " + both + " REGSET 1 NUM 1 SUB " + both
                    + " OUTDEF 0 MUX NUM 0 " + both + " OUTDEF 1 MUX " + both + " NUM 0");
            State.fill(x);
            check.due(forms[i] + " as guard: getNext(0)", x.getNext(0), worth[j]);
            check.due(forms[i] + " as left operand: getNext(1)", x.getNext(1), Math.floorMod(worth[i] - worth[j], 256));
            check.due(forms[i] + " as then-value: getOutput(0)", x.getOutput(0), worth[j]);
            check.due(forms[i] + " as selector: getOutput(1)", x.getOutput(1), worth[j]);
            x.clock(1, 1);
            check.due(forms[i] + " as guard: getRegister(0)", x.getRegister(0), worth[j]);
            check.due(forms[i] + " left: getRegister(1)", x.getRegister(1), Math.floorMod(worth[i] - worth[j], 256));
        }
    }
}
