/** Promises 6, 12 and 16: refusals of clock, what a cycle does, and that both modes do the same. */
public final class ClockTest {
    private static final Check check = new Check();

    public static void main(String[] args) {
        refusals();
        for (int mode = 0; mode <= 1; mode++) {
            everyCount(mode);
            allAtOnce(mode);
            lastTrueGuardWins(mode);
            guardIsAnyNonzero(mode);
            keepsWithoutStatement(mode);
            changesNothingElse(mode);
            largestPrograms(mode);
        }
        check.finish();
    }

    private static void refused(RtlSynth x, int mode, int cycles, int answer) {
        String before = Check.seen(x);
        String call = "clock(" + mode + ", " + cycles + ")";
        check.due(call, x.clock(mode, cycles), answer);
        check.due("refused " + call, Check.seen(x), before);
    }

    private static void refusals() {
        int[] wrongModes = {Integer.MIN_VALUE, -1, 2, 3, 256, Integer.MAX_VALUE};
        int[] wrongCounts = {Integer.MIN_VALUE, -1, 0, 9, 10, 256, Integer.MAX_VALUE};
        RtlSynth x = new RtlSynth(20);
        check.feed(x, 11, 0, 1, 1, 5, 3, 3, 0, 1, 1);
        refused(x, 0, 1, RtlSynth.ERR_NOT_COMPILED);
        refused(x, 1, 1, RtlSynth.ERR_NOT_COMPILED);
        refused(x, 2, 1, RtlSynth.ERR_NOT_COMPILED);
        refused(x, 0, 9, RtlSynth.ERR_NOT_COMPILED);
        x.compile();
        for (int mode : wrongModes) {
            refused(x, mode, 1, RtlSynth.ERR_MODE);
            refused(x, mode, 0, RtlSynth.ERR_MODE);
        }
        for (int cycles : wrongCounts) {
            refused(x, 0, cycles, RtlSynth.ERR_VALUE);
            refused(x, 1, cycles, RtlSynth.ERR_VALUE);
        }
    }

    private static void everyCount(int mode) {
        RtlSynth x = new RtlSynth(20);
        check.feed(x, 11, 0, 1, 1, 5, 3, 3, 0, 2, 0);
        x.compile();
        x.setInput(0, 7);
        int sum = 0;
        for (int cycles = 1; cycles <= 8; cycles++) {
            check.due("clock(" + mode + ", " + cycles + ")", x.clock(mode, cycles), RtlSynth.OK);
            sum += cycles;
            check.due("getCycles()", x.getCycles(), sum);
            check.due("getRegister(0)", x.getRegister(0), 7 * sum % 256);
            check.due("getNext(0)", x.getNext(0), 7 * (sum + 1) % 256);
        }
    }

    /** Eight registers in a ring: each reads its neighbour's value from before the cycle. */
    private static void allAtOnce(int mode) {
        RtlSynth x = new RtlSynth(48);
        for (int r = 0; r < 8; r++) {
            check.feed(x, 11, r, 1, 255, 3, (r + 1) % 8);
            x.setRegister(r, 31 * r + 5);
        }
        x.compile();
        for (int step = 1; step <= 20; step++) {
            for (int r = 0; r < 8; r++) {
                check.due("ring getNext(" + r + ")", x.getNext(r), 31 * ((r + step) % 8) + 5);
            }
            x.clock(mode, 1);
            for (int r = 0; r < 8; r++) {
                check.due("ring getRegister(" + r + ")", x.getRegister(r), 31 * ((r + step) % 8) + 5);
            }
        }
    }

    private static void lastTrueGuardWins(int mode) {
        for (int guards = 0; guards < 16; guards++) {
            RtlSynth x = new RtlSynth(48);
            int due = 99;
            for (int i = 0; i < 4; i++) {
                check.feed(x, 11, 3, 2, i, 1, 10 + i, 11, 4, 1, 0, 1, 1);
                boolean on = (guards >> i & 1) == 1;
                x.setInput(i, on ? 1 : 0);
                due = on ? 10 + i : due;
            }
            x.compile();
            x.setRegister(3, 99);
            check.due("guards " + guards + " getNext(3)", x.getNext(3), due);
            x.clock(mode, 1);
            check.due("guards " + guards + " getRegister(3)", x.getRegister(3), due);
            check.due("guards " + guards + " getRegister(4)", x.getRegister(4), 0);
        }
    }

    private static void guardIsAnyNonzero(int mode) {
        RtlSynth x = new RtlSynth(8);
        check.feed(x, 11, 6, 2, 2, 1, 200);
        x.compile();
        for (int guard = 0; guard < 256; guard++) {
            x.setInput(2, guard);
            x.setRegister(6, 3);
            check.due("guard " + guard + " getNext(6)", x.getNext(6), guard == 0 ? 3 : 200);
            x.clock(mode, 1);
            check.due("guard " + guard + " getRegister(6)", x.getRegister(6), guard == 0 ? 3 : 200);
        }
    }

    private static void keepsWithoutStatement(int mode) {
        RtlSynth x = new RtlSynth(8);
        x.compile();
        for (int r = 0; r < 8; r++) x.setRegister(r, 255 - 30 * r);
        x.clock(mode, 8);
        for (int r = 0; r < 8; r++) {
            check.due("kept getRegister(" + r + ")", x.getRegister(r), 255 - 30 * r);
            check.due("kept getNext(" + r + ")", x.getNext(r), 255 - 30 * r);
        }
    }

    private static void changesNothingElse(int mode) {
        RtlSynth x = new RtlSynth(48);
        check.feed(x, 9, 1, 2, 3, 10, 1, 4, 1, 11, 2, 1, 1, 4, 1);
        x.compile();
        for (int p = 0; p < 4; p++) x.setInput(p, 60 + p);
        x.clock(mode, 5);
        for (int p = 0; p < 4; p++) check.due("getInput(" + p + ")", x.getInput(p), 60 + p);
        check.due("getTokenCount()", x.getTokenCount(), 7);
        check.due("getNeed()", x.getNeed(), 0);
        check.due("isCompiled()", x.isCompiled(), true);
        check.due("getWire(1)", x.getWire(1), 63);
        check.due("getWire(2)", x.getWire(2), 0);
        check.due("getOutput(1)", x.getOutput(1), 63);
        check.due("getOutput(0)", x.getOutput(0), 0);
        check.due("getRegister(2)", x.getRegister(2), 63);
    }

    /** 48 tokens, as many as can be of the operators that cost the most gates. */
    private static void largestPrograms(int mode) {
        for (int op = RtlSynth.OP_NOT; op <= RtlSynth.OP_MUX; op++) {
            RtlSynth x = new RtlSynth(48);
            Model model = new Model(48);
            largest(x, model, op);
            check.due("compile() of 48 tokens with OP " + op, x.compile(), RtlSynth.OK);
            model.compile();
            for (int step = 0; step < 40; step++) {
                x.setRegister(0, 37 * step);
                model.setRegister(0, 37 * step);
                x.clock(mode, 1 + step % 8);
                model.clock(0, 1 + step % 8);
                check.due("48 tokens, OP " + op + ", step " + step, x.getRegister(1), model.getRegister(1));
            }
        }
    }

    private static void largest(RtlSynth x, Model model, int op) {
        int[] before = {11, 1, 1, 1};
        for (int i = 0; i < before.length; i += 2) {
            check.feed(x, before[i], before[i + 1]);
            model.token(before[i], before[i + 1]);
        }
        while (model.getNeed() > 0) {
            boolean fits = model.getNeed() - 1 + Model.arity(5, op) <= model.room() - 1;
            int kind = fits ? 5 : 3;
            int value = fits ? op : model.room() % 2;
            check.feed(x, kind, value);
            model.token(kind, value);
        }
    }
}
