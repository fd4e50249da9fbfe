import java.util.function.IntUnaryOperator;
import java.util.function.ToIntBiFunction;

/** Boundary cases of promises 8 to 12, one method for each sentence. */
public final class BoundaryGettersTest {
    private static final int LEAST = Integer.MIN_VALUE;
    private static final int GREATEST = Integer.MAX_VALUE;
    private static final int[] FAR = {LEAST, LEAST + 1, -65536, -256, -255, -8, -2, -1, 15, 16, 255, 256, 257,
        65536 + 1, 1 << 30, GREATEST - 1, GREATEST};
    private static final Check check = new Check();

    public static void main(String[] args) {
        registerRange();
        registerValues();
        inputRange();
        inputValues();
        wireRange();
        wireBeforeCompile();
        wireNotDefined();
        wireDefined();
        wireFollowsState();
        outputRange();
        outputBeforeCompile();
        outputNotDefined();
        outputDefined();
        outputFollowsState();
        nextRange();
        nextBeforeCompile();
        nextOfLastTrueGuard();
        nextWithoutStatement();
        nextIsAfterOneCycle();
        changeNothing();
        nextChangesNothing();
        check.finish();
    }

    /** -1 on both sides of 0..highest, near and far, in every state. */
    private static void outside(String name, IntUnaryOperator getter, int highest) {
        for (int place : FAR) check.due(name + "(" + place + ")", getter.applyAsInt(place), -1);
        for (int place = highest + 1; place <= highest + 8; place++) {
            check.due(name + "(" + place + ")", getter.applyAsInt(place), -1);
        }
    }

    private static void registerRange() {
        check.about("or -1 if r is not in 0..7.");
        for (State state : State.values()) {
            RtlSynth x = state.make();
            outside(state + " getRegister", x::getRegister, 7);
        }
    }

    private static void registerValues() {
        check.about("`getRegister(r)` answers the value of register r (0..255)");
        for (State state : State.values()) {
            for (int r = 0; r < 8; r++) {
                RtlSynth x = state.make();
                check.due(state + " getRegister(" + r + ")", x.getRegister(r), state.model().getRegister(r));
                x.setRegister(r, 0);
                check.due(state + " getRegister(" + r + ")", x.getRegister(r), 0);
                x.setRegister(r, 255);
                check.due(state + " getRegister(" + r + ")", x.getRegister(r), 255);
            }
        }
    }

    private static void inputRange() {
        check.about("or -1 if p is not in 0..3.");
        for (State state : State.values()) {
            RtlSynth x = state.make();
            outside(state + " getInput", x::getInput, 3);
        }
    }

    private static void inputValues() {
        check.about("`getInput(p)` answers the value of input port p (0..255)");
        for (State state : State.values()) {
            for (int p = 0; p < 4; p++) {
                RtlSynth x = state.make();
                check.due(state + " getInput(" + p + ")", x.getInput(p), state.model().getInput(p));
                x.setInput(p, 0);
                check.due(state + " getInput(" + p + ")", x.getInput(p), 0);
                x.setInput(p, 255);
                check.due(state + " getInput(" + p + ")", x.getInput(p), 255);
            }
        }
    }

    private static void wireRange() {
        check.about("`getWire(w)` answers -1 if w is not in 0..7");
        for (State state : State.values()) {
            RtlSynth x = state.make();
            outside(state + " getWire", x::getWire, 7);
        }
    }

    private static void wireBeforeCompile() {
        check.about("`getWire(w)` answers -1 if w is not in 0..7 or the program is not compiled.");
        for (State state : State.values()) {
            if (state.compiled()) continue;
            for (int w = 0; w < 8; w++) check.due(state + " getWire(" + w + ")", state.make().getWire(w), -1);
        }
        RtlSynth x = check.fed(8, "WIREDEF 7 NUM 9");
        check.due("defined getWire(7) before compile", x.getWire(7), -1);
        x.compile();
        check.due("defined getWire(7) after compile", x.getWire(7), 9);
    }

    private static void wireNotDefined() {
        check.about("Otherwise, if wire w is not defined it answers 0");
        for (int w = 0; w < 8; w++) {
            String others = "";
            for (int other = 0; other < 8; other++) {
                if (other != w) others += "WIREDEF " + other + " NUM 255 ";
            }
            check.due("getWire(" + w + ") of the others", check.compiled(20, others).getWire(w), 0);
            check.due("getWire(" + w + ") of nothing", check.compiled(20, "").getWire(w), 0);
            RtlSynth first = check.compiled(20, "OUTDEF 0 NUM 255 REGSET " + w + " NUM 255 NUM 255");
            first.clock(1, 1);
            check.due("getWire(" + w + ") of no wire", first.getWire(w), 0);
        }
    }

    private static void wireDefined() {
        check.about("if it is defined it answers the value of the expression of w's statement");
        for (int w = 0; w < 8; w++) {
            for (int value : new int[] {0, 1, 128, 255}) {
                RtlSynth x = check.compiled(20, "WIREDEF " + w + " NUM " + value);
                for (int i = 0; i < 8; i++) check.due("getWire(" + i + ")", x.getWire(i), i == w ? value : 0);
            }
        }
    }

    private static void wireFollowsState() {
        check.about("under the current registers and inputs, following Meaning.");
        RtlSynth x = check.compiled(48, "WIREDEF 7 ADD REG 7 IN 3 WIREDEF 0 ADD WIRE 7 WIRE 7 REGSET 7 NUM 1 WIRE 0");
        check.due("getWire(0)", x.getWire(0), 0);
        x.setRegister(7, 255);
        check.due("getWire(0) after setRegister", x.getWire(0), 254);
        x.setInput(3, 1);
        check.due("getWire(0) after setInput", x.getWire(0), 0);
        x.setInput(3, 2);
        check.due("getWire(7)", x.getWire(7), 1);
        x.clock(1, 1);
        check.due("getWire(7) after clock", x.getWire(7), 4);
        x.reset();
        check.due("getWire(7) after reset", x.getWire(7), 2);
        check.due("getWire(0) after reset", x.getWire(0), 4);
    }

    private static void outputRange() {
        check.about("`getOutput(o)` answers -1 if o is not in 0..3");
        for (State state : State.values()) {
            RtlSynth x = state.make();
            outside(state + " getOutput", x::getOutput, 3);
        }
    }

    private static void outputBeforeCompile() {
        check.about("`getOutput(o)` answers -1 if o is not in 0..3 or the program is not compiled.");
        for (State state : State.values()) {
            if (state.compiled()) continue;
            for (int o = 0; o < 4; o++) check.due(state + " getOutput(" + o + ")", state.make().getOutput(o), -1);
        }
        RtlSynth x = check.fed(8, "OUTDEF 3 NUM 9");
        check.due("defined getOutput(3) before compile", x.getOutput(3), -1);
        x.compile();
        check.due("defined getOutput(3) after compile", x.getOutput(3), 9);
    }

    private static void outputNotDefined() {
        check.about("Otherwise, if output o is not defined it answers 0");
        for (int o = 0; o < 4; o++) {
            String others = "";
            for (int other = 0; other < 4; other++) {
                if (other != o) others += "OUTDEF " + other + " NUM 255 ";
            }
            check.due("getOutput(" + o + ") of the others", check.compiled(20, others).getOutput(o), 0);
            check.due("getOutput(" + o + ") of nothing", check.compiled(20, "").getOutput(o), 0);
            RtlSynth first = check.compiled(20, "WIREDEF " + o + " NUM 255 REGSET " + o + " NUM 255 NUM 255");
            first.clock(1, 1);
            check.due("getOutput(" + o + ") of no output", first.getOutput(o), 0);
        }
    }

    private static void outputDefined() {
        check.about("if it is defined it answers the value of the expression of o's statement");
        for (int o = 0; o < 4; o++) {
            for (int value : new int[] {0, 1, 128, 255}) {
                RtlSynth x = check.compiled(20, "OUTDEF " + o + " NUM " + value);
                for (int i = 0; i < 4; i++) check.due("getOutput(" + i + ")", x.getOutput(i), i == o ? value : 0);
            }
        }
    }

    private static void outputFollowsState() {
        check.about("the expression of o's statement under the current registers and inputs.");
        RtlSynth x = check.compiled(48, "OUTDEF 3 SUB REG 7 IN 3 OUTDEF 0 REG 7 REGSET 7 NUM 1 SUB REG 7 IN 3");
        check.due("getOutput(3)", x.getOutput(3), 0);
        x.setInput(3, 1);
        check.due("getOutput(3) after setInput", x.getOutput(3), 255);
        x.setRegister(7, 1);
        check.due("getOutput(3) after setRegister", x.getOutput(3), 0);
        x.clock(1, 2);
        check.due("getOutput(0) after clock", x.getOutput(0), 255);
        check.due("getOutput(3) after clock", x.getOutput(3), 254);
        x.reset();
        check.due("getOutput(0) after reset", x.getOutput(0), 0);
        check.due("getOutput(3) after reset", x.getOutput(3), 255);
    }

    private static void nextRange() {
        check.about("`getNext(r)` answers -1 if r is not in 0..7");
        for (State state : State.values()) {
            RtlSynth x = state.make();
            outside(state + " getNext", x::getNext, 7);
        }
    }

    private static void nextBeforeCompile() {
        check.about("`getNext(r)` answers -1 if r is not in 0..7 or the program is not compiled.");
        for (State state : State.values()) {
            if (state.compiled()) continue;
            for (int r = 0; r < 8; r++) check.due(state + " getNext(" + r + ")", state.make().getNext(r), -1);
        }
        RtlSynth x = check.fed(8, "REGSET 7 NUM 1 NUM 9");
        check.due("getNext(7) before compile", x.getNext(7), -1);
        x.compile();
        check.due("getNext(7) after compile", x.getNext(7), 9);
    }

    private static void nextOfLastTrueGuard() {
        check.about("the value expression of the last REGSET(r) statement whose guard is nonzero");
        for (int r = 0; r < 8; r++) {
            RtlSynth x = check.compiled(20, "REGSET " + r + " IN 0 NUM 10 REGSET " + r + " IN 1 NUM 0");
            x.setRegister(r, 255);
            check.due("no guard, getNext(" + r + ")", x.getNext(r), 255);
            x.setInput(0, 128);
            check.due("first guard, getNext(" + r + ")", x.getNext(r), 10);
            x.setInput(1, 1);
            check.due("both guards, getNext(" + r + ")", x.getNext(r), 0);
            x.setInput(0, 0);
            check.due("second guard, getNext(" + r + ")", x.getNext(r), 0);
        }
    }

    private static void nextWithoutStatement() {
        check.about("or the current value of r if there is none.");
        for (int r = 0; r < 8; r++) {
            for (int value : new int[] {0, 1, 128, 255}) {
                RtlSynth x = check.compiled(20, "REGSET " + (r ^ 1) + " NUM 1 NUM 77");
                x.setRegister(r, value);
                check.due("getNext(" + r + ")", x.getNext(r), value);
            }
        }
    }

    private static void nextIsAfterOneCycle() {
        check.about("it answers the value register r would hold after one clock cycle from the current state");
        for (State state : State.values()) {
            if (!state.compiled()) continue;
            for (int mode = 0; mode <= 1; mode++) {
                for (int r = 0; r < 8; r++) {
                    RtlSynth x = state.make();
                    int next = x.getNext(r);
                    x.clock(mode, 1);
                    check.due(state + " getNext(" + r + ") against mode " + mode, next, x.getRegister(r));
                }
            }
        }
    }

    /** Each getter alone, near and far, and then the future of an object that never was asked. */
    private static void changeNothing() {
        check.about("It changes nothing.");
        for (State state : State.values()) {
            unchanged(state, "getRegister", (x, place) -> x.getRegister(place));
            unchanged(state, "getInput", (x, place) -> x.getInput(place));
            unchanged(state, "getWire", (x, place) -> x.getWire(place));
            unchanged(state, "getOutput", (x, place) -> x.getOutput(place));
            unchanged(state, "getTokenCount", (x, place) -> x.getTokenCount());
            unchanged(state, "getNeed", (x, place) -> x.getNeed());
            unchanged(state, "isCompiled", (x, place) -> x.isCompiled() ? 1 : 0);
            unchanged(state, "getCycles", (x, place) -> x.getCycles());
        }
    }

    private static void nextChangesNothing() {
        check.about("It changes nothing: registers and the cycle count stay as they are.");
        for (State state : State.values()) unchanged(state, "getNext", (x, place) -> x.getNext(place));
    }

    private static void unchanged(State state, String name, ToIntBiFunction<RtlSynth, Integer> getter) {
        String twin = Future.of(state::make);
        String future = Future.of(() -> {
            RtlSynth x = state.make();
            for (int place : FAR) getter.applyAsInt(x, place);
            for (int place = 0; place < 10; place++) getter.applyAsInt(x, place);
            return x;
        });
        check.due(state + " " + name, future, twin);
    }
}
