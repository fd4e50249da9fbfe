/** Boundary cases of promise 1, one method for each sentence. */
public final class BoundaryConstructionTest {
    private static final int[] EXTREMES = {Integer.MIN_VALUE, 0, 8, 48, Integer.MAX_VALUE};
    private static final Check check = new Check();

    public static void main(String[] args) {
        anyInt();
        tooSmall();
        tooLarge();
        inRange();
        limitNeverChanges();
        freshRegistersAndInputs();
        freshProgram();
        freshWires();
        freshOutputs();
        freshFlagAndCycles();
        check.finish();
    }

    /** The limit shows in two ways: in a statement that stays open, and in a complete one. */
    private static void limitIs(int maxTokens, int limit) {
        String name = "new RtlSynth(" + maxTokens + "): ";
        RtlSynth open = check.fed(maxTokens, "OUTDEF 3" + " NOT".repeat(limit - 1));
        check.due(name + "open getTokenCount()", open.getTokenCount(), limit);
        check.refused(open, 1, 0, RtlSynth.ERR_FULL);

        RtlSynth complete = check.fed(maxTokens, "OUTDEF 3" + " NOT".repeat(limit - 2) + " NUM 0");
        check.due(name + "complete getTokenCount()", complete.getTokenCount(), limit);
        check.refused(complete, 11, 0, RtlSynth.ERR_FULL);
    }

    private static void anyInt() {
        check.about("`new RtlSynth(maxTokens)` accepts any int.");
        int[] least = {Integer.MIN_VALUE, Integer.MIN_VALUE + 1};
        int[] greatest = {Integer.MAX_VALUE, Integer.MAX_VALUE - 1};
        for (int maxTokens : least) limitIs(maxTokens, 8);
        for (int maxTokens : greatest) limitIs(maxTokens, 48);
    }

    private static void tooSmall() {
        check.about("a value below 8 becomes 8");
        int[] far = {-65536 + 20, -256 + 20, -256, -48, -20, -8};
        for (int maxTokens : far) limitIs(maxTokens, 8);
        for (int maxTokens = -3; maxTokens < 8; maxTokens++) limitIs(maxTokens, 8);
    }

    private static void tooLarge() {
        check.about("a value above 48 becomes 48");
        int[] far = {64, 96, 255, 256, 256 + 20, 65536 + 20, 1 << 30};
        for (int maxTokens : far) limitIs(maxTokens, 48);
        for (int maxTokens = 49; maxTokens < 52; maxTokens++) limitIs(maxTokens, 48);
    }

    private static void inRange() {
        check.about("a value in 8..48 is used as is");
        for (int maxTokens = 8; maxTokens <= 48; maxTokens++) limitIs(maxTokens, maxTokens);
    }

    private static void limitNeverChanges() {
        check.about("The token limit never changes afterwards.");
        for (int limit : new int[] {8, 9, 47, 48}) {
            RtlSynth x = check.fed(limit, "OUTDEF 3" + " NOT".repeat(limit - 1));
            for (int i = 0; i < 3; i++) check.refused(x, 1, 0, RtlSynth.ERR_FULL);
            State.fill(x);
            x.compile();
            x.clock(0, 8);
            x.reset();
            check.refused(x, 1, 0, RtlSynth.ERR_FULL);

            RtlSynth y = new RtlSynth(limit);
            y.reset();
            y.clock(0, 8);
            y.token(12, 0);
            y.token(1, 256);
            check.feed(y, "OUTDEF 3" + " NOT".repeat(limit - 1));
            check.refused(y, 1, 0, RtlSynth.ERR_FULL);
        }
    }

    private static void freshRegistersAndInputs() {
        check.about("A fresh object has all eight registers 0, all four inputs 0");
        for (int maxTokens : EXTREMES) {
            RtlSynth x = new RtlSynth(maxTokens);
            for (int r = 0; r < 8; r++) check.due("getRegister(" + r + ")", x.getRegister(r), 0);
            for (int p = 0; p < 4; p++) check.due("getInput(" + p + ")", x.getInput(p), 0);
        }
    }

    private static void freshProgram() {
        check.about("no tokens (token count 0), need 0");
        for (int maxTokens : EXTREMES) {
            RtlSynth x = new RtlSynth(maxTokens);
            check.due("getTokenCount()", x.getTokenCount(), 0);
            check.due("getNeed()", x.getNeed(), 0);
        }
    }

    private static void freshWires() {
        check.about("no wire and no output defined");
        for (int w = 0; w < 8; w++) {
            RtlSynth reads = check.fed(8, "OUTDEF 0");
            check.refused(reads, 4, w, RtlSynth.ERR_UNDEF);
            check.fed(8, "WIREDEF " + w);
            check.due("getWire(" + w + ")", check.compiled(8, "").getWire(w), 0);
        }
    }

    private static void freshOutputs() {
        check.about("no wire and no output defined");
        for (int o = 0; o < 4; o++) {
            check.fed(8, "OUTDEF " + o);
            check.due("getOutput(" + o + ")", check.compiled(8, "").getOutput(o), 0);
        }
    }

    private static void freshFlagAndCycles() {
        check.about("is not compiled, and has cycle count 0.");
        for (int maxTokens : EXTREMES) {
            RtlSynth x = new RtlSynth(maxTokens);
            check.due("isCompiled()", x.isCompiled(), false);
            check.due("getCycles()", x.getCycles(), 0);
            check.due("clock(0, 1)", x.clock(0, 1), RtlSynth.ERR_NOT_COMPILED);
        }
    }
}
