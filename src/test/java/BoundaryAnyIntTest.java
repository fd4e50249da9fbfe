import java.util.function.Function;
import java.util.function.ToIntFunction;

/**
 * "Any int may be passed as any argument. A refused call changes nothing." Every method, with the least and
 * the greatest int and those around every bound, in every state: the answers of the model, and after a
 * refusal the same future as a twin that never got the call.
 */
public final class BoundaryAnyIntTest {
    private static final int[] EDGES = {Integer.MIN_VALUE, Integer.MIN_VALUE + 1, -257, -256, -255, -11, -8, -1, 0, 1,
        2, 3, 4, 7, 8, 9, 10, 11, 12, 48, 49, 127, 128, 255, 256, 257, 65536, Integer.MAX_VALUE - 1, Integer.MAX_VALUE};
    private static final Check check = new Check();

    public static void main(String[] args) {
        check.about("Any int may be passed as any argument. A refused call changes nothing.");
        for (State state : State.values()) {
            sameAsModel(state);
            String twin = Future.of(state::make);
            for (int a : EDGES) {
                getters(state, a);
                for (int b : EDGES) twoArguments(state, twin, a, b);
            }
            compile(state, twin);
        }
        check.finish();
    }

    /** That the states are what their names say: a refused call in making one would show here. */
    private static void sameAsModel(State state) {
        RtlSynth x = state.make();
        Model model = state.model();
        check.due(state + " getTokenCount()", model.getTokenCount(), state.tokens());
        check.due(state + " getTokenCount()", x.getTokenCount(), state.tokens());
        check.due(state + " getNeed()", x.getNeed(), model.getNeed());
        check.due(state + " isCompiled()", x.isCompiled(), model.isCompiled());
        check.due(state + " getCycles()", x.getCycles(), model.getCycles());
    }

    private static void getters(State state, int place) {
        RtlSynth x = state.make();
        Model model = state.model();
        check.due(state + " getRegister(" + place + ")", x.getRegister(place), model.getRegister(place));
        check.due(state + " getInput(" + place + ")", x.getInput(place), model.getInput(place));
        check.due(state + " getWire(" + place + ")", x.getWire(place), model.getWire(place));
        check.due(state + " getOutput(" + place + ")", x.getOutput(place), model.getOutput(place));
        check.due(state + " getNext(" + place + ")", x.getNext(place), model.getNext(place));
    }

    private static void twoArguments(State state, String twin, int a, int b) {
        String arguments = "(" + a + ", " + b + ")";
        call(state, twin, "token" + arguments, x -> x.token(a, b), m -> m.token(a, b));
        call(state, twin, "clock" + arguments, x -> x.clock(a, b), m -> m.clock(a, b));
        call(state, twin, "setInput" + arguments,
                x -> x.setInput(a, b) ? 0 : -1, m -> m.setInput(a, b) ? 0 : -1);
        call(state, twin, "setRegister" + arguments,
                x -> x.setRegister(a, b) ? 0 : -1, m -> m.setRegister(a, b) ? 0 : -1);
    }

    private static void compile(State state, String twin) {
        call(state, twin, "compile()", RtlSynth::compile, Model::compile);
    }

    private static void call(State state, String twin, String name, ToIntFunction<RtlSynth> call,
            Function<Model, Integer> dueCall) {
        RtlSynth x = state.make();
        Model model = state.model();
        int due = dueCall.apply(model);
        check.due(state + " " + name, call.applyAsInt(x), due);
        if (due != 0) {
            String future = Future.of(() -> {
                RtlSynth y = state.make();
                call.applyAsInt(y);
                return y;
            });
            check.due(state + " refused " + name, future, twin);
        } else {
            sameGetters(state + " " + name, x, model);
        }
    }

    private static void sameGetters(String name, RtlSynth x, Model model) {
        for (int i = 0; i < 8; i++) {
            check.due(name + ", getRegister(" + i + ")", x.getRegister(i), model.getRegister(i));
            check.due(name + ", getInput(" + i + ")", x.getInput(i), model.getInput(i));
            check.due(name + ", getWire(" + i + ")", x.getWire(i), model.getWire(i));
            check.due(name + ", getOutput(" + i + ")", x.getOutput(i), model.getOutput(i));
            check.due(name + ", getNext(" + i + ")", x.getNext(i), model.getNext(i));
        }
        check.due(name + ", getTokenCount()", x.getTokenCount(), model.getTokenCount());
        check.due(name + ", getNeed()", x.getNeed(), model.getNeed());
        check.due(name + ", isCompiled()", x.isCompiled(), model.isCompiled());
        check.due(name + ", getCycles()", x.getCycles(), model.getCycles());
    }
}
