/** Promises 7 and 16: reset clears registers and cycles, and keeps the rest, in every state. */
public final class ResetTest {
    private static final Check check = new Check();

    public static void main(String[] args) {
        beforeAnyToken();
        withOpenStatement();
        afterClocks(0);
        afterClocks(1);
        check.finish();
    }

    private static void fill(RtlSynth x) {
        for (int r = 0; r < 8; r++) x.setRegister(r, 100 + r);
        for (int p = 0; p < 4; p++) x.setInput(p, 50 + p);
    }

    private static void cleared(RtlSynth x) {
        for (int r = 0; r < 8; r++) check.due("getRegister(" + r + ")", x.getRegister(r), 0);
        for (int p = 0; p < 4; p++) check.due("getInput(" + p + ")", x.getInput(p), 50 + p);
        check.due("getCycles()", x.getCycles(), 0);
    }

    private static void beforeAnyToken() {
        RtlSynth x = new RtlSynth(8);
        fill(x);
        x.reset();
        cleared(x);
        check.due("isCompiled()", x.isCompiled(), false);
    }

    private static void withOpenStatement() {
        RtlSynth x = new RtlSynth(20);
        check.feed(x, 9, 2, 1, 9, 10, 3, 4, 2, 11, 1, 5, 11, 1, 1);
        fill(x);
        x.reset();
        cleared(x);
        check.due("getNeed()", x.getNeed(), 3);
        check.due("getTokenCount()", x.getTokenCount(), 7);
        check.feed(x, 4, 2, 1, 0, 1, 44);
        check.due("WIREDEF(2) again", x.token(9, 2), RtlSynth.ERR_REDEF);
        check.due("OUTDEF(3) again", x.token(10, 3), RtlSynth.ERR_REDEF);
        check.due("compile()", x.compile(), RtlSynth.OK);
        check.due("getNext(1)", x.getNext(1), 44);
    }

    private static void afterClocks(int mode) {
        RtlSynth x = new RtlSynth(20);
        check.feed(x, 9, 2, 1, 9, 10, 3, 4, 2, 11, 1, 1, 1, 5, 3, 3, 1, 4, 2);
        x.compile();
        fill(x);
        x.clock(mode, 8);
        x.clock(mode, 3);
        check.due("getCycles() before reset", x.getCycles(), 11);
        check.due("getRegister(1) before reset", x.getRegister(1), 200);
        x.reset();
        cleared(x);
        check.due("isCompiled()", x.isCompiled(), true);
        check.due("getTokenCount()", x.getTokenCount(), 9);
        check.due("getNeed()", x.getNeed(), 0);
        check.due("getWire(2)", x.getWire(2), 9);
        check.due("getOutput(3)", x.getOutput(3), 9);
        x.clock(mode, 2);
        check.due("getCycles() after reset and clock", x.getCycles(), 2);
        check.due("getRegister(1) after reset and clock", x.getRegister(1), 18);
    }
}
