/** Promises 3 and 15: compile seals the program, once and for the object's whole life. */
public final class CompileTest {
    private static final Check check = new Check();

    public static void main(String[] args) {
        emptyProgram();
        incompleteProgram();
        fullButOpenProgram();
        keepsEverythingElse();
        check.finish();
    }

    private static void staysSealed(RtlSynth x) {
        String before = Check.seen(x);
        check.due("second compile()", x.compile(), RtlSynth.ERR_SEALED);
        check.due("second compile()", Check.seen(x), before);
        check.due("token after compile", x.token(RtlSynth.K_REGSET, 0), RtlSynth.ERR_SEALED);
        check.due("token after compile", Check.seen(x), before);
        x.reset();
        check.due("isCompiled() after reset", x.isCompiled(), true);
        check.due("compile() after reset", x.compile(), RtlSynth.ERR_SEALED);
        check.due("token after reset", x.token(RtlSynth.K_REGSET, 0), RtlSynth.ERR_SEALED);
        check.due("clock(0, 8)", x.clock(0, 8), RtlSynth.OK);
        check.due("isCompiled() after clock", x.isCompiled(), true);
    }

    private static void emptyProgram() {
        RtlSynth x = new RtlSynth(8);
        check.due("isCompiled() before", x.isCompiled(), false);
        check.due("compile() of nothing", x.compile(), RtlSynth.OK);
        check.due("isCompiled()", x.isCompiled(), true);
        check.due("getTokenCount()", x.getTokenCount(), 0);
        staysSealed(x);
    }

    private static void incompleteProgram() {
        int[][] pairs = {{11, 0}, {5, 11}, {2, 0}, {8, 1}, {2, 1}, {3, 1}, {1, 77}};
        RtlSynth x = new RtlSynth(8);
        for (int i = 0; i < pairs.length; i++) {
            check.feed(x, pairs[i][0], pairs[i][1]);
            if (i == pairs.length - 1) break;
            String before = Check.seen(x);
            check.due("compile() after " + i, x.compile(), RtlSynth.ERR_INCOMPLETE);
            check.due("compile() after " + i, Check.seen(x), before);
        }
        check.due("compile() of the whole", x.compile(), RtlSynth.OK);
        x.setInput(0, 1);
        x.setInput(1, 2);
        check.due("getNext(0)", x.getNext(0), 77);
        staysSealed(x);
    }

    private static void fullButOpenProgram() {
        RtlSynth x = new RtlSynth(8);
        check.feed(x, 10, 0, 5, 1, 5, 1, 5, 1, 5, 1, 5, 1, 5, 1, 5, 1);
        check.due("compile() full and open", x.compile(), RtlSynth.ERR_INCOMPLETE);
        check.due("isCompiled() full and open", x.isCompiled(), false);
        check.due("clock(0, 1) full and open", x.clock(0, 1), RtlSynth.ERR_NOT_COMPILED);
    }

    private static void keepsEverythingElse() {
        RtlSynth x = new RtlSynth(48);
        check.feed(x, 9, 4, 1, 5, 10, 2, 5, 3, 4, 4, 3, 6, 11, 6, 2, 3, 4, 4);
        for (int r = 0; r < 8; r++) x.setRegister(r, 10 + r);
        for (int p = 0; p < 4; p++) x.setInput(p, 20 + p);
        check.due("compile()", x.compile(), RtlSynth.OK);
        for (int r = 0; r < 8; r++) check.due("getRegister(" + r + ")", x.getRegister(r), 10 + r);
        for (int p = 0; p < 4; p++) check.due("getInput(" + p + ")", x.getInput(p), 20 + p);
        check.due("getCycles()", x.getCycles(), 0);
        check.due("getTokenCount()", x.getTokenCount(), 9);
        check.due("getNeed()", x.getNeed(), 0);
        check.due("getWire(4)", x.getWire(4), 5);
        check.due("getWire(3)", x.getWire(3), 0);
        check.due("getOutput(2)", x.getOutput(2), 21);
        check.due("getOutput(1)", x.getOutput(1), 0);
        check.due("getNext(6)", x.getNext(6), 5);
        staysSealed(x);
    }
}
