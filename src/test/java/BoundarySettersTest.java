/** Boundary cases of promises 4 and 5, one method for each sentence. */
public final class BoundarySettersTest {
    private static final int LEAST = Integer.MIN_VALUE;
    private static final int GREATEST = Integer.MAX_VALUE;
    /** A value and its low eight bits, written out. */
    private static final int[][] LOW_BITS = {
        {0, 0}, {1, 1}, {127, 127}, {128, 128}, {254, 254}, {255, 255}, {256, 0}, {257, 1}, {511, 255}, {512, 0},
        {65535, 255}, {65536, 0}, {65536 + 200, 200}, {-1, 255}, {-2, 254}, {-127, 129}, {-128, 128}, {-129, 127},
        {-255, 1}, {-256, 0}, {-257, 255}, {GREATEST, 255}, {GREATEST - 1, 254}, {LEAST, 0}, {LEAST + 1, 1}};
    private static final Check check = new Check();

    public static void main(String[] args) {
        portOutOfRange();
        portInRange();
        inputLowBits();
        inputInEveryState();
        inputChangesNothingElse();
        registerOutOfRange();
        registerInRange();
        registerLowBits();
        registerInEveryState();
        registerChangesNothingElse();
        check.finish();
    }

    private static void portOutOfRange() {
        check.about("if port is not in 0..3 the answer is false and nothing changes.");
        int[] outside = {LEAST, LEAST + 1, -256, -4, -2, -1, 4, 5, 7, 8, 255, 256, 256 + 1, 65536 + 2, GREATEST};
        for (State state : State.values()) {
            for (int port : outside) {
                RtlSynth x = state.make();
                String before = Check.seen(x);
                check.due(state + " setInput(" + port + ", 77)", x.setInput(port, 77), false);
                check.due(state + " setInput(" + port + ", 77)", Check.seen(x), before);
            }
        }
    }

    private static void portInRange() {
        check.about("Otherwise input port takes the value `value & 255`");
        for (int port = 0; port < 4; port++) {
            RtlSynth x = new RtlSynth(8);
            check.due("setInput(" + port + ", 77)", x.setInput(port, 77), true);
            for (int p = 0; p < 4; p++) check.due("getInput(" + p + ")", x.getInput(p), p == port ? 77 : 0);
        }
    }

    private static void inputLowBits() {
        check.about("the low 8 bits of the int, so for example -1 gives 255 and 256 gives 0");
        for (int[] row : LOW_BITS) {
            RtlSynth x = check.compiled(8, "OUTDEF 0 IN 0 REGSET 0 NUM 1 IN 3");
            for (int port = 0; port < 4; port++) {
                check.due("setInput(" + port + ", " + row[0] + ")", x.setInput(port, row[0]), true);
                check.due("getInput(" + port + ")", x.getInput(port), row[1]);
            }
            check.due("getOutput(0) of " + row[0], x.getOutput(0), row[1]);
            check.due("getNext(0) of " + row[0], x.getNext(0), row[1]);
            x.clock(1, 1);
            check.due("getRegister(0) of " + row[0], x.getRegister(0), row[1]);
        }
    }

    private static void inputInEveryState() {
        check.about("It is allowed in every state, compiled or not.");
        for (State state : State.values()) {
            for (int port = 0; port < 4; port++) {
                RtlSynth x = state.make();
                check.due(state + " setInput(" + port + ", -1)", x.setInput(port, -1), true);
                check.due(state + " getInput(" + port + ")", x.getInput(port), 255);
            }
        }
    }

    private static void inputChangesNothingElse() {
        check.about("Nothing else changes; registers and the cycle count are untouched.");
        for (State state : State.values()) {
            String twin = Future.of(state::make);
            for (int port = 0; port < 4; port++) {
                int place = port;
                String future = Future.of(() -> {
                    RtlSynth x = state.make();
                    int old = x.getInput(place);
                    x.setInput(place, 77);
                    x.setInput(place, old);
                    return x;
                });
                check.due(state + " setInput(" + port + ") there and back", future, twin);
                untouched(state, port);
            }
        }
    }

    private static void untouched(State state, int port) {
        RtlSynth x = state.make();
        RtlSynth twin = state.make();
        x.setInput(port, 77);
        for (int r = 0; r < 8; r++) check.due(state + " getRegister(" + r + ")", x.getRegister(r), twin.getRegister(r));
        for (int p = 0; p < 4; p++) {
            if (p != port) check.due(state + " getInput(" + p + ")", x.getInput(p), twin.getInput(p));
        }
        check.due(state + " getCycles()", x.getCycles(), twin.getCycles());
        check.due(state + " getTokenCount()", x.getTokenCount(), twin.getTokenCount());
        check.due(state + " getNeed()", x.getNeed(), twin.getNeed());
        check.due(state + " isCompiled()", x.isCompiled(), twin.isCompiled());
    }

    private static void registerOutOfRange() {
        check.about("if r is not in 0..7 the answer is false and nothing changes.");
        int[] outside = {LEAST, LEAST + 1, -256, -8, -2, -1, 8, 9, 15, 16, 255, 256, 256 + 1, 65536 + 2, GREATEST};
        for (State state : State.values()) {
            for (int r : outside) {
                RtlSynth x = state.make();
                String before = Check.seen(x);
                check.due(state + " setRegister(" + r + ", 77)", x.setRegister(r, 77), false);
                check.due(state + " setRegister(" + r + ", 77)", Check.seen(x), before);
            }
        }
    }

    private static void registerInRange() {
        check.about("Otherwise register r takes the value `value & 255`, and the answer is true.");
        for (int r = 0; r < 8; r++) {
            RtlSynth x = new RtlSynth(8);
            check.due("setRegister(" + r + ", 77)", x.setRegister(r, 77), true);
            for (int i = 0; i < 8; i++) check.due("getRegister(" + i + ")", x.getRegister(i), i == r ? 77 : 0);
        }
    }

    private static void registerLowBits() {
        check.about("register r takes the value `value & 255`");
        for (int[] row : LOW_BITS) {
            RtlSynth x = check.compiled(8, "OUTDEF 0 REG 0 REGSET 0 NUM 1 REG 7");
            for (int r = 0; r < 8; r++) {
                check.due("setRegister(" + r + ", " + row[0] + ")", x.setRegister(r, row[0]), true);
                check.due("getRegister(" + r + ")", x.getRegister(r), row[1]);
            }
            check.due("getOutput(0) of " + row[0], x.getOutput(0), row[1]);
            x.setRegister(0, 3);
            check.due("getNext(0) of " + row[0], x.getNext(0), row[1]);
            x.clock(1, 1);
            check.due("getRegister(0) of " + row[0], x.getRegister(0), row[1]);
        }
    }

    private static void registerInEveryState() {
        check.about("It is allowed in every state, compiled or not.");
        for (State state : State.values()) {
            for (int r = 0; r < 8; r++) {
                RtlSynth x = state.make();
                check.due(state + " setRegister(" + r + ", -1)", x.setRegister(r, -1), true);
                check.due(state + " getRegister(" + r + ")", x.getRegister(r), 255);
            }
        }
    }

    private static void registerChangesNothingElse() {
        check.about("Nothing else changes; other registers, inputs and the cycle count are untouched.");
        for (State state : State.values()) {
            String twin = Future.of(state::make);
            for (int r = 0; r < 8; r++) {
                int place = r;
                String future = Future.of(() -> {
                    RtlSynth x = state.make();
                    int old = x.getRegister(place);
                    x.setRegister(place, 77);
                    x.setRegister(place, old);
                    return x;
                });
                check.due(state + " setRegister(" + r + ") there and back", future, twin);
                othersUntouched(state, r);
            }
        }
    }

    private static void othersUntouched(State state, int r) {
        RtlSynth x = state.make();
        RtlSynth twin = state.make();
        x.setRegister(r, 77);
        for (int i = 0; i < 8; i++) {
            if (i != r) check.due(state + " getRegister(" + i + ")", x.getRegister(i), twin.getRegister(i));
        }
        for (int p = 0; p < 4; p++) check.due(state + " getInput(" + p + ")", x.getInput(p), twin.getInput(p));
        check.due(state + " getCycles()", x.getCycles(), twin.getCycles());
        check.due(state + " getTokenCount()", x.getTokenCount(), twin.getTokenCount());
        check.due(state + " getNeed()", x.getNeed(), twin.getNeed());
        check.due(state + " isCompiled()", x.isCompiled(), twin.isCompiled());
    }
}
