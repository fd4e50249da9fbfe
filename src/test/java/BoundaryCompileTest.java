/** Boundary cases of promises 3 and 15, one method for each sentence. */
public final class BoundaryCompileTest {
    private static final String WHOLE = "WIREDEF 4 NUM 5 OUTDEF 2 ADD WIRE 4 REG 6 REGSET 6 IN 3 WIRE 4";
    private static final Check check = new Check();

    public static void main(String[] args) {
        sealed();
        incomplete();
        refusalsChangeNothing();
        goesOnAfterRefusal();
        emptyProgram();
        emptyAfterRefusedTokens();
        fullProgram();
        keepsValues();
        keepsProgram();
        keepsDefinedSets();
        compiledForLife();
        flag();
        check.finish();
    }

    private static void sealed() {
        check.about("`compile()` answers `ERR_SEALED` if the program is already compiled");
        for (State state : State.values()) {
            RtlSynth x = state.make();
            if (!state.compiled()) continue;
            for (int i = 0; i < 3; i++) check.due(state + " compile()", x.compile(), RtlSynth.ERR_SEALED);
        }
    }

    private static void incomplete() {
        check.about("otherwise `ERR_INCOMPLETE` if need > 0.");
        String[] open = {"WIREDEF 0", "OUTDEF 0", "REGSET 0", "REGSET 0 NUM 1", "WIREDEF 0 NOT", "OUTDEF 0 ADD NUM 1",
            "REGSET 0 NUM 1 MUX NUM 1 NUM 1", "WIREDEF 0 NUM 1 OUTDEF 0", "REGSET 7" + " MUX".repeat(47),
            "OUTDEF 3" + " NOT".repeat(47)};
        for (String program : open) {
            RtlSynth x = check.fed(48, program);
            for (int i = 0; i < 3; i++) check.due("compile() of " + program, x.compile(), RtlSynth.ERR_INCOMPLETE);
        }
    }

    private static void refusalsChangeNothing() {
        check.about("Both are refusals and change nothing.");
        for (State state : State.values()) {
            if (!state.compiled() && state.model().getNeed() == 0) continue;
            String twin = Future.of(state::make);
            String compiled = Future.of(() -> {
                RtlSynth x = state.make();
                x.compile();
                return x;
            });
            check.due(state + " refused compile()", compiled, twin);
        }
    }

    private static void goesOnAfterRefusal() {
        check.about("Both are refusals and change nothing.");
        int[] pairs = Design.pairs("REGSET 3 IN 1 MUX IN 2 SUB REG 3 NUM 1 NUM 77");
        RtlSynth x = new RtlSynth(8);
        for (int i = 0; i < pairs.length; i += 2) {
            check.feed(x, pairs[i], pairs[i + 1]);
            boolean last = i == pairs.length - 2;
            check.due("compile() after token " + i / 2, x.compile(), last ? RtlSynth.OK : RtlSynth.ERR_INCOMPLETE);
        }
        State.fill(x);
        check.due("getNext(3)", x.getNext(3), 203);
    }

    private static void emptyProgram() {
        check.about("An empty program (no tokens) is allowed.");
        for (int limit : new int[] {8, 48}) {
            RtlSynth x = new RtlSynth(limit);
            check.due("compile() of nothing", x.compile(), RtlSynth.OK);
            State.fill(x);
            for (int w = 0; w < 8; w++) check.due("getWire(" + w + ")", x.getWire(w), 0);
            for (int o = 0; o < 4; o++) check.due("getOutput(" + o + ")", x.getOutput(o), 0);
            for (int mode = 0; mode <= 1; mode++) {
                check.due("clock(" + mode + ", 8)", x.clock(mode, 8), RtlSynth.OK);
                for (int r = 0; r < 8; r++) check.due("getRegister(" + r + ")", x.getRegister(r), 201 + r);
                for (int r = 0; r < 8; r++) check.due("getNext(" + r + ")", x.getNext(r), 201 + r);
            }
            check.due("getCycles()", x.getCycles(), 16);
            check.due("getTokenCount()", x.getTokenCount(), 0);
        }
    }

    private static void emptyAfterRefusedTokens() {
        check.about("An empty program (no tokens) is allowed.");
        RtlSynth x = new RtlSynth(8);
        for (int kind = 0; kind <= 12; kind++) x.token(kind, -1);
        for (int kind = 1; kind <= 8; kind++) x.token(kind, 1);
        check.due("compile() after refused tokens", x.compile(), RtlSynth.OK);
        check.due("getTokenCount()", x.getTokenCount(), 0);
    }

    private static void fullProgram() {
        check.about("Otherwise the program becomes compiled and the answer is `OK`.");
        for (int limit = 8; limit <= 48; limit++) {
            RtlSynth x = check.compiled(limit, "OUTDEF 3" + " NOT".repeat(limit - 2) + " NUM 5");
            check.due("getTokenCount() at limit " + limit, x.getTokenCount(), limit);
            check.due("getOutput(3) at limit " + limit, x.getOutput(3), limit % 2 == 0 ? 5 : 250);
        }
    }

    private static void keepsValues() {
        check.about("Registers, inputs, the cycle count, the tokens, the token count, need and the defined sets"
                + " are unchanged.");
        RtlSynth x = check.fed(20, WHOLE);
        State.fill(x);
        check.due("compile()", x.compile(), RtlSynth.OK);
        for (int r = 0; r < 8; r++) check.due("getRegister(" + r + ")", x.getRegister(r), 201 + r);
        for (int p = 0; p < 4; p++) check.due("getInput(" + p + ")", x.getInput(p), 101 + p);
        check.due("getCycles()", x.getCycles(), 0);
    }

    private static void keepsProgram() {
        check.about("the tokens, the token count, need and the defined sets are unchanged.");
        RtlSynth x = check.fed(20, WHOLE);
        State.fill(x);
        check.due("getTokenCount() before", x.getTokenCount(), 9);
        check.due("compile()", x.compile(), RtlSynth.OK);
        check.due("getTokenCount() after", x.getTokenCount(), 9);
        check.due("getNeed() after", x.getNeed(), 0);
        check.due("getNext(6)", x.getNext(6), 5);
    }

    private static void keepsDefinedSets() {
        check.about("the defined sets are unchanged.");
        RtlSynth x = check.compiled(20, WHOLE);
        State.fill(x);
        for (int w = 0; w < 8; w++) check.due("getWire(" + w + ")", x.getWire(w), w == 4 ? 5 : 0);
        for (int o = 0; o < 4; o++) check.due("getOutput(" + o + ")", x.getOutput(o), o == 2 ? 212 : 0);
    }

    private static void compiledForLife() {
        check.about("Once compiled, the object stays compiled for its whole life; no further token is accepted.");
        for (String program : new String[] {"", WHOLE, "OUTDEF 3" + " NOT".repeat(18) + " NUM 5"}) {
            RtlSynth x = check.compiled(20, program);
            for (int round = 0; round < 3; round++) {
                for (int kind = 1; kind <= 11; kind++) check.due("token", x.token(kind, 1), RtlSynth.ERR_SEALED);
                check.due("isCompiled()", x.isCompiled(), true);
                State.fill(x);
                x.compile();
                x.clock(round % 2, 8);
                x.clock(2, 0);
                x.reset();
            }
            check.due("getTokenCount()", x.getTokenCount(), Design.pairs(program).length / 2);
        }
    }

    private static void flag() {
        check.about("`isCompiled()` answers true once compile has answered `OK`, and false before.");
        for (State state : State.values()) {
            check.due(state + " isCompiled()", state.make().isCompiled(), state.compiled());
        }
        RtlSynth x = check.fed(8, "REGSET 0 NUM 1");
        x.compile();
        check.due("isCompiled() after ERR_INCOMPLETE", x.isCompiled(), false);
        x.clock(0, 1);
        x.reset();
        check.due("isCompiled() after refused clock and reset", x.isCompiled(), false);
        check.feed(x, "NUM 1");
        check.due("isCompiled() when complete", x.isCompiled(), false);
        x.compile();
        check.due("isCompiled() after OK", x.isCompiled(), true);
        x.compile();
        check.due("isCompiled() after ERR_SEALED", x.isCompiled(), true);
    }
}
