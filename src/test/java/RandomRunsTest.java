/**
 * All promises at once: long runs of mixed calls, right and wrong ones, against the model. A second
 * object gets every call with the other clock mode (promise 6). The numbers come from a fixed
 * sequence, so every run of this test makes the same calls.
 */
public final class RandomRunsTest {
    private static final int RUNS = 6000;
    private static final int CALLS = 160;
    private static final int[] HIGHEST = {0, 255, 3, 7, 7, 11, 7, 7, 7, 7, 3, 7};
    private static final int[] FAR = {
        Integer.MIN_VALUE, -256, -1, 0, 8, 12, 48, 255, 256, 1 << 20, Integer.MAX_VALUE};
    private static final Check check = new Check();
    private static long seed = 20261115L;

    public static void main(String[] args) {
        for (int run = 0; run < RUNS && check.wrong() < 20; run++) {
            int limit = below(4) == 0 ? below(70) - 10 : 20 + below(29);
            oneRun(run, limit);
        }
        check.finish();
    }

    private static int below(int bound) {
        seed = seed * 6364136223846793005L + 1442695040888963407L;
        return (int) ((seed >>> 33) % bound);
    }

    private static void oneRun(int run, int limit) {
        RtlSynth x = new RtlSynth(limit);
        RtlSynth y = new RtlSynth(limit);
        Model model = new Model(limit);
        for (int i = 0; i < CALLS; i++) {
            int before = check.wrong();
            boolean tokens = !model.isCompiled() && below(10) < 8;
            if (tokens) {
                oneToken(x, y, model);
            } else {
                oneCall(x, y, model);
            }
            if (i % 8 == 0) allGetters(x, y, model);
            if (check.wrong() != before) {
                System.out.println("  in run " + run + " with limit " + limit + ", call " + i);
                return;
            }
        }
    }

    private static void oneToken(RtlSynth x, RtlSynth y, Model model) {
        int kind = below(13);
        int value = below(10) == 0 ? FAR[below(FAR.length)] : below(13);
        if (below(10) != 0) {
            boolean tight = model.getNeed() + 3 >= model.room();
            kind = model.getNeed() == 0 ? 9 + below(3) : tight ? 1 + below(4) : 1 + below(8);
            value = kind == 5 ? 1 + below(11) : below(HIGHEST[kind] + 1);
        }
        String call = "token(" + kind + ", " + value + ")";
        int due = model.token(kind, value);
        check.due(call, x.token(kind, value), due);
        check.due(call, y.token(kind, value), due);
        check.due(call + ", getNeed()", x.getNeed(), model.getNeed());
        check.due(call + ", getTokenCount()", x.getTokenCount(), model.getTokenCount());
    }

    private static int place() {
        return below(12) == 0 ? FAR[below(FAR.length)] : below(8);
    }

    private static void oneCall(RtlSynth x, RtlSynth y, Model model) {
        int place = place();
        int value = below(6) == 0 ? FAR[below(FAR.length)] : below(256);
        int due;
        switch (below(5)) {
            case 0:
                if (model.room() > 12 && below(6) != 0) return;
                due = model.compile();
                check.due("compile()", x.compile(), due);
                check.due("compile()", y.compile(), due);
                break;
            case 1:
                boolean set = model.setInput(place, value);
                check.due("setInput(" + place + ", " + value + ")", x.setInput(place, value), set);
                y.setInput(place, value);
                break;
            case 2:
                boolean written = model.setRegister(place, value);
                check.due("setRegister(" + place + ", " + value + ")", x.setRegister(place, value), written);
                y.setRegister(place, value);
                break;
            case 3:
                oneClock(x, y, model);
                break;
            default:
                if (below(8) != 0) return;
                model.reset();
                x.reset();
                y.reset();
                break;
        }
    }

    private static void oneClock(RtlSynth x, RtlSynth y, Model model) {
        int mode = below(8) == 0 ? FAR[below(FAR.length)] : below(2);
        int other = mode == 0 ? 1 : mode == 1 ? 0 : mode;
        int cycles = below(8) == 0 ? FAR[below(FAR.length)] : below(10);
        int due = model.clock(mode, cycles);
        check.due("clock(" + mode + ", " + cycles + ")", x.clock(mode, cycles), due);
        check.due("clock(" + other + ", " + cycles + ")", y.clock(other, cycles), due);
        allGetters(x, y, model);
    }

    private static void allGetters(RtlSynth x, RtlSynth y, Model model) {
        for (int i = -1; i <= 8; i++) {
            check.due("getRegister(" + i + ")", x.getRegister(i), model.getRegister(i));
            check.due("getInput(" + i + ")", x.getInput(i), model.getInput(i));
            check.due("getWire(" + i + ")", x.getWire(i), model.getWire(i));
            check.due("getOutput(" + i + ")", x.getOutput(i), model.getOutput(i));
            check.due("getNext(" + i + ")", x.getNext(i), model.getNext(i));
        }
        check.due("getTokenCount()", x.getTokenCount(), model.getTokenCount());
        check.due("getNeed()", x.getNeed(), model.getNeed());
        check.due("isCompiled()", x.isCompiled(), model.isCompiled());
        check.due("getCycles()", x.getCycles(), model.getCycles());
        check.due("getters with the other mode", Check.seen(y), Check.seen(x));
    }
}
