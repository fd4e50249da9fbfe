/** Boundary cases of promise 7, one method for each sentence. */
public final class BoundaryResetTest {
    private static final Check check = new Check();

    public static void main(String[] args) {
        for (State state : State.values()) {
            clearsRegisters(state);
            clearsCycles(state);
            keepsInputs(state);
            keepsProgram(state);
            keepsDefinedSets(state);
            twiceIsOnce(state);
        }
        freshStaysFresh();
        extremeRegisters();
        for (int mode = 0; mode <= 1; mode++) clocksFromZero(mode);
        check.finish();
    }

    private static RtlSynth resetIn(State state) {
        RtlSynth x = state.make();
        x.reset();
        return x;
    }

    private static void clearsRegisters(State state) {
        check.about("`reset()` sets all eight registers to 0");
        RtlSynth x = resetIn(state);
        for (int r = 0; r < 8; r++) check.due(state + " getRegister(" + r + ")", x.getRegister(r), 0);
    }

    private static void clearsCycles(State state) {
        check.about("and the cycle count to 0.");
        check.due(state + " getCycles()", resetIn(state).getCycles(), 0);
        if (!state.compiled()) return;
        RtlSynth x = state.make();
        for (int i = 0; i < 40; i++) x.clock(i % 2, 8);
        x.reset();
        check.due(state + " getCycles() after 320 and reset", x.getCycles(), 0);
    }

    private static void keepsInputs(State state) {
        check.about("the compiled flag and the inputs are kept.");
        RtlSynth x = resetIn(state);
        for (int p = 0; p < 4; p++) {
            check.due(state + " getInput(" + p + ")", x.getInput(p), state == State.FRESH ? 0 : 101 + p);
        }
        check.due(state + " isCompiled()", x.isCompiled(), state.compiled());
    }

    private static void keepsProgram(State state) {
        check.about("The program (tokens, token count, need, defined wires and outputs)");
        RtlSynth x = resetIn(state);
        check.due(state + " getTokenCount()", x.getTokenCount(), state.tokens());
        check.due(state + " getNeed()", x.getNeed(), state.model().getNeed());
    }

    /** With its registers set back, an object that was reset goes on like one that never was clocked. */
    private static void keepsDefinedSets(State state) {
        check.about("The program (tokens, token count, need, defined wires and outputs)");
        String reset = Future.of(() -> {
            RtlSynth x = resetIn(state);
            State.fill(x);
            return x;
        });
        String twin = Future.of(() -> {
            RtlSynth x = state.clocked() ? State.COMPILED.make() : state.make();
            State.fill(x);
            return x;
        });
        check.due(state + " after reset", reset, twin);
    }

    private static void twiceIsOnce(State state) {
        check.about("It is allowed in every state.");
        RtlSynth x = resetIn(state);
        String once = Check.seen(x);
        x.reset();
        check.due(state + " reset() twice", Check.seen(x), once);
    }

    private static void freshStaysFresh() {
        check.about("It is allowed in every state.");
        String fresh = Future.of(State.FRESH::make);
        check.due("reset() of a fresh object", Future.of(() -> resetIn(State.FRESH)), fresh);
    }

    private static void extremeRegisters() {
        check.about("`reset()` sets all eight registers to 0");
        for (int value : new int[] {1, 128, 255, 256, -1, Integer.MIN_VALUE, Integer.MAX_VALUE}) {
            RtlSynth x = check.compiled(8, "OUTDEF 0 REG 7");
            for (int r = 0; r < 8; r++) x.setRegister(r, value);
            x.reset();
            for (int r = 0; r < 8; r++) check.due("getRegister(" + r + ")", x.getRegister(r), 0);
            for (int r = 0; r < 8; r++) check.due("getNext(" + r + ")", x.getNext(r), 0);
            check.due("getOutput(0)", x.getOutput(0), 0);
        }
    }

    private static void clocksFromZero(int mode) {
        check.about("`reset()` sets all eight registers to 0 and the cycle count to 0.");
        RtlSynth x = check.compiled(20, "REGSET 0 NUM 1 ADD REG 0 IN 0 OUTDEF 0 REG 0");
        x.setInput(0, 3);
        x.clock(mode, 8);
        check.due("getOutput(0) before", x.getOutput(0), 24);
        x.reset();
        check.due("getOutput(0) after", x.getOutput(0), 0);
        check.due("getNext(0) after", x.getNext(0), 3);
        x.clock(mode, 2);
        check.due("getRegister(0)", x.getRegister(0), 6);
        check.due("getCycles()", x.getCycles(), 2);
    }
}
