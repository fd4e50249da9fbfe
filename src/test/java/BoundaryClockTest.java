/** Boundary cases of "One clock cycle" and of promises 6 and 16, one method for each sentence. */
public final class BoundaryClockTest {
    private static final int LEAST = Integer.MIN_VALUE;
    private static final int GREATEST = Integer.MAX_VALUE;
    private static final int[] WRONG_MODES = {LEAST, LEAST + 1, -256, -2, -1, 2, 3, 255, 256, 256 + 1, GREATEST};
    private static final int[] WRONG_CYCLES = {
        LEAST, LEAST + 1, -256, -8, -1, 0, 9, 10, 16, 255, 256, 256 + 1, 65536 + 8, GREATEST};
    private static final String COUNTER = "REGSET 0 NUM 1 ADD REG 0 NUM 1";
    private static final Check check = new Check();

    public static void main(String[] args) {
        notCompiled();
        notCompiledFirst();
        wrongMode();
        wrongModeBeforeCycles();
        wrongCycles();
        refusalsChangeNothing();
        for (int mode = 0; mode <= 1; mode++) {
            oneCycle(mode);
            eightCycles(mode);
            everyNumberOfCycles(mode);
            inputsHeld(mode);
            wrapsUpAndDown(mode);
            lastTrueGuard(mode);
            guardNonzero(mode);
            noTrueGuard(mode);
            noStatement(mode);
            beforeTheCycle(mode);
            keepsProgram(mode);
            cyclesSince(mode);
        }
        check.finish();
    }

    private static void refused(RtlSynth x, int mode, int cycles, int answer) {
        String before = Check.seen(x);
        String call = "clock(" + mode + ", " + cycles + ")";
        check.due(call, x.clock(mode, cycles), answer);
        check.due("refused " + call, Check.seen(x), before);
    }

    private static void clocked(RtlSynth x, int mode, int cycles) {
        check.due("clock(" + mode + ", " + cycles + ")", x.clock(mode, cycles), RtlSynth.OK);
    }

    private static void notCompiled() {
        check.about("not compiled -> `ERR_NOT_COMPILED`");
        for (State state : State.values()) {
            if (state.compiled()) continue;
            for (int mode = 0; mode <= 1; mode++) {
                refused(state.make(), mode, 1, RtlSynth.ERR_NOT_COMPILED);
                refused(state.make(), mode, 8, RtlSynth.ERR_NOT_COMPILED);
            }
        }
    }

    private static void notCompiledFirst() {
        check.about("considers in order: not compiled -> `ERR_NOT_COMPILED`; mode not 0 or 1 -> `ERR_MODE`");
        for (int mode : WRONG_MODES) {
            refused(State.FULL.make(), mode, 1, RtlSynth.ERR_NOT_COMPILED);
            refused(State.FULL.make(), mode, 0, RtlSynth.ERR_NOT_COMPILED);
        }
        for (int cycles : WRONG_CYCLES) refused(State.FRESH.make(), 1, cycles, RtlSynth.ERR_NOT_COMPILED);
    }

    private static void wrongMode() {
        check.about("mode not 0 or 1 -> `ERR_MODE`");
        for (int mode : WRONG_MODES) {
            for (int cycles = 1; cycles <= 8; cycles++) {
                refused(State.COMPILED.make(), mode, cycles, RtlSynth.ERR_MODE);
            }
            refused(State.COMPILED_EMPTY.make(), mode, 1, RtlSynth.ERR_MODE);
            refused(State.CLOCKED_GATES.make(), mode, 1, RtlSynth.ERR_MODE);
        }
    }

    private static void wrongModeBeforeCycles() {
        check.about("mode not 0 or 1 -> `ERR_MODE`; cycles not in 1..8 -> `ERR_VALUE`.");
        for (int mode : WRONG_MODES) {
            for (int cycles : WRONG_CYCLES) refused(State.COMPILED.make(), mode, cycles, RtlSynth.ERR_MODE);
        }
    }

    private static void wrongCycles() {
        check.about("cycles not in 1..8 -> `ERR_VALUE`.");
        for (int cycles : WRONG_CYCLES) {
            for (int mode = 0; mode <= 1; mode++) {
                refused(State.COMPILED.make(), mode, cycles, RtlSynth.ERR_VALUE);
                refused(State.COMPILED_EMPTY.make(), mode, cycles, RtlSynth.ERR_VALUE);
                refused(State.CLOCKED_RTL.make(), mode, cycles, RtlSynth.ERR_VALUE);
            }
        }
    }

    private static void refusalsChangeNothing() {
        check.about("These are refusals and change nothing.");
        for (State state : State.values()) {
            String twin = Future.of(state::make);
            String future = Future.of(() -> {
                RtlSynth x = state.make();
                for (int mode : WRONG_MODES) x.clock(mode, 1);
                for (int cycles : WRONG_CYCLES) x.clock(0, cycles);
                for (int cycles : WRONG_CYCLES) x.clock(1, cycles);
                if (!state.compiled()) x.clock(1, 1);
                return x;
            });
            check.due(state + " refused clocks", future, twin);
        }
    }

    private static void oneCycle(int mode) {
        check.about("it performs One clock cycle `cycles` times in a row", "cycles of 1");
        RtlSynth x = check.compiled(8, COUNTER);
        clocked(x, mode, 1);
        check.due("getRegister(0)", x.getRegister(0), 1);
        check.due("getCycles()", x.getCycles(), 1);
    }

    private static void eightCycles(int mode) {
        check.about("it performs One clock cycle `cycles` times in a row", "cycles of 8");
        RtlSynth x = check.compiled(8, COUNTER);
        clocked(x, mode, 8);
        check.due("getRegister(0)", x.getRegister(0), 8);
        check.due("getCycles()", x.getCycles(), 8);
    }

    private static void everyNumberOfCycles(int mode) {
        check.about("the registers hold the values after those cycles and the cycle count is larger by `cycles`.");
        for (int cycles = 1; cycles <= 8; cycles++) {
            RtlSynth atOnce = State.COMPILED.make();
            RtlSynth oneByOne = State.COMPILED.make();
            clocked(atOnce, mode, cycles);
            for (int i = 0; i < cycles; i++) clocked(oneByOne, mode, 1);
            check.due(cycles + " cycles at once", Check.seen(atOnce), Check.seen(oneByOne));
            check.due("getCycles()", atOnce.getCycles(), cycles);
            clocked(atOnce, mode, cycles);
            check.due("getCycles() after two calls", atOnce.getCycles(), 2 * cycles);
        }
    }

    private static void inputsHeld(int mode) {
        check.about("with the inputs held fixed");
        RtlSynth x = check.compiled(20, "REGSET 0 NUM 1 ADD REG 0 IN 3 REGSET 3 NUM 1 IN 0");
        State.fill(x);
        x.setRegister(0, 0);
        x.setInput(3, 255);
        clocked(x, mode, 8);
        check.due("getRegister(0)", x.getRegister(0), 248);
        check.due("getRegister(3)", x.getRegister(3), 101);
        for (int p = 0; p < 3; p++) check.due("getInput(" + p + ")", x.getInput(p), 101 + p);
        check.due("getInput(3)", x.getInput(3), 255);
    }

    private static void wrapsUpAndDown(int mode) {
        check.about("Every value is an integer 0..255 (8 bits).");
        RtlSynth x = check.compiled(20, COUNTER + " REGSET 1 NUM 1 SUB REG 1 NUM 1 REGSET 2 NUM 1 SHL 1 REG 2");
        x.setRegister(0, 254);
        x.setRegister(1, 1);
        x.setRegister(2, 64);
        int[][] due = {{255, 0, 128}, {0, 255, 0}, {1, 254, 0}};
        for (int[] row : due) {
            clocked(x, mode, 1);
            for (int r = 0; r < 3; r++) check.due("getRegister(" + r + ")", x.getRegister(r), row[r]);
        }
    }

    private static void lastTrueGuard(int mode) {
        check.about("take the last REGSET(r) statement in program order whose guard value is nonzero.");
        for (int guards = 0; guards < 16; guards++) {
            RtlSynth x = check.compiled(20, "REGSET 7 IN 0 NUM 10 REGSET 7 IN 1 NUM 11 REGSET 6 NUM 0 NUM 1"
                    + " REGSET 7 IN 2 NUM 12 REGSET 7 IN 3 NUM 13");
            x.setRegister(7, 99);
            int due = 99;
            for (int p = 0; p < 4; p++) {
                x.setInput(p, guards >> p & 1);
                if ((guards >> p & 1) == 1) due = 10 + p;
            }
            check.due("guards " + guards + ", getNext(7)", x.getNext(7), due);
            clocked(x, mode, 1);
            check.due("guards " + guards + ", getRegister(7)", x.getRegister(7), due);
        }
    }

    private static void guardNonzero(int mode) {
        check.about("whose guard value is nonzero.");
        for (int guard : new int[] {0, 1, 2, 4, 8, 16, 32, 64, 127, 128, 254, 255}) {
            RtlSynth x = check.compiled(8, "REGSET 0 IN 0 NUM 255 REGSET 7 NUM " + guard + " NUM 255");
            x.setInput(0, guard);
            clocked(x, mode, 1);
            check.due("guard " + guard + ", getRegister(0)", x.getRegister(0), guard == 0 ? 0 : 255);
            check.due("guard " + guard + ", getRegister(7)", x.getRegister(7), guard == 0 ? 0 : 255);
        }
    }

    private static void noTrueGuard(int mode) {
        check.about("If no such statement exists, r keeps its value.", "all guards 0");
        for (int r = 0; r < 8; r++) {
            RtlSynth x = check.compiled(20, "REGSET " + r + " NUM 0 NUM 1 REGSET " + r + " SHL 1 NUM 128 NUM 2");
            State.fill(x);
            clocked(x, mode, 8);
            check.due("getRegister(" + r + ")", x.getRegister(r), 201 + r);
            check.due("getCycles()", x.getCycles(), 8);
        }
    }

    private static void noStatement(int mode) {
        check.about("If no such statement exists, r keeps its value.", "no REGSET");
        for (int r = 0; r < 8; r++) {
            RtlSynth x = check.compiled(8, "REGSET " + r + " NUM 1 NUM 0");
            for (int i = 0; i < 8; i++) x.setRegister(i, 255 - i);
            clocked(x, mode, 8);
            for (int i = 0; i < 8; i++) check.due("getRegister(" + i + ")", x.getRegister(i), i == r ? 0 : 255 - i);
        }
    }

    private static void beforeTheCycle(int mode) {
        check.about("All guards and values are computed from the state before the cycle."
                + " Then all eight registers take their new values at once");
        RtlSynth swap = check.compiled(20, "REGSET 0 REG 1 REG 7 REGSET 7 REG 0 REG 0 REGSET 1 NUM 1 NUM 0");
        swap.setRegister(0, 1);
        swap.setRegister(1, 1);
        swap.setRegister(7, 255);
        clocked(swap, mode, 1);
        int[] due = {255, 0, 0, 0, 0, 0, 0, 1};
        for (int r = 0; r < 8; r++) check.due("swapped getRegister(" + r + ")", swap.getRegister(r), due[r]);

        String ring = "";
        for (int r = 0; r < 8; r++) ring += "REGSET " + r + " NUM 1 REG " + (r + 7) % 8 + " ";
        RtlSynth x = check.compiled(48, ring);
        State.fill(x);
        clocked(x, mode, 8);
        for (int r = 0; r < 8; r++) check.due("after 8, getRegister(" + r + ")", x.getRegister(r), 201 + r);
        clocked(x, mode, 1);
        for (int r = 0; r < 8; r++) check.due("after 9, getRegister(" + r + ")", x.getRegister(r), 201 + (r + 7) % 8);
    }

    private static void keepsProgram(int mode) {
        check.about("Clock never changes inputs, tokens, need, the defined sets or the compiled flag.");
        RtlSynth x = State.COMPILED.make();
        for (int i = 0; i < 5; i++) clocked(x, mode, 8);
        for (int p = 0; p < 4; p++) check.due("getInput(" + p + ")", x.getInput(p), 101 + p);
        check.due("getTokenCount()", x.getTokenCount(), State.COMPILED.tokens());
        check.due("getNeed()", x.getNeed(), 0);
        check.due("isCompiled()", x.isCompiled(), true);
        String twin = Future.of(State.COMPILED::make);
        String future = Future.of(() -> {
            RtlSynth y = State.COMPILED.make();
            y.clock(mode, 8);
            y.reset();
            State.fill(y);
            return y;
        });
        check.due("clocked and set back", future, twin);
    }

    private static void cyclesSince(int mode) {
        check.about("`getCycles()` answers the number of cycles performed since construction or the last reset.");
        RtlSynth x = new RtlSynth(8);
        check.due("getCycles() of a fresh object", x.getCycles(), 0);
        x.clock(mode, 8);
        check.due("getCycles() after a clock refused", x.getCycles(), 0);
        x.compile();
        check.due("getCycles() after compile", x.getCycles(), 0);
        for (int i = 1; i <= 1000; i++) clocked(x, mode, 8);
        check.due("getCycles() after 1000 calls", x.getCycles(), 8000);
        x.clock(mode, 9);
        x.clock(mode, 0);
        x.clock(2, 8);
        check.due("getCycles() after refused calls", x.getCycles(), 8000);
        x.reset();
        check.due("getCycles() after reset", x.getCycles(), 0);
        clocked(x, mode, 3);
        x.setRegister(0, 1);
        x.setInput(0, 1);
        check.due("getCycles() since reset", x.getCycles(), 3);
        x.reset();
        x.reset();
        check.due("getCycles() after two resets", x.getCycles(), 0);
    }
}
