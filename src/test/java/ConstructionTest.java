/** Promise 1: the token limit and the fresh state. */
public final class ConstructionTest {
    public static void main(String[] args) {
        Check check = new Check();
        int[][] limits = {
            {Integer.MIN_VALUE, 8}, {-1, 8}, {0, 8}, {7, 8}, {8, 8}, {9, 9}, {24, 24},
            {47, 47}, {48, 48}, {49, 48}, {1000, 48}, {Integer.MAX_VALUE, 48}};
        for (int[] row : limits) {
            limitIs(check, row[0], row[1]);
            freshState(check, row[0]);
        }
        check.finish();
    }

    private static void limitIs(Check check, int maxTokens, int limit) {
        RtlSynth x = new RtlSynth(maxTokens);
        String name = "new RtlSynth(" + maxTokens + ") ";
        x.token(RtlSynth.K_OUTDEF, 0);
        for (int i = 1; i < limit; i++) {
            check.due(name + "token " + i, x.token(RtlSynth.K_OP, RtlSynth.OP_NOT), RtlSynth.OK);
        }
        for (int i = 0; i < 3; i++) {
            check.due(name + "token too many", x.token(RtlSynth.K_NUM, 1), RtlSynth.ERR_FULL);
        }
        check.due(name + "getTokenCount()", x.getTokenCount(), limit);
        x.reset();
        check.due(name + "token after reset", x.token(RtlSynth.K_NUM, 1), RtlSynth.ERR_FULL);
    }

    private static void freshState(Check check, int maxTokens) {
        RtlSynth x = new RtlSynth(maxTokens);
        for (int r = 0; r < 8; r++) {
            check.due("fresh getRegister(" + r + ")", x.getRegister(r), 0);
        }
        for (int p = 0; p < 4; p++) {
            check.due("fresh getInput(" + p + ")", x.getInput(p), 0);
        }
        check.due("fresh getTokenCount()", x.getTokenCount(), 0);
        check.due("fresh getNeed()", x.getNeed(), 0);
        check.due("fresh isCompiled()", x.isCompiled(), false);
        check.due("fresh getCycles()", x.getCycles(), 0);
        x.token(RtlSynth.K_OUTDEF, 0);
        for (int w = 0; w < 8; w++) {
            check.due("fresh WIRE(" + w + ")", x.token(RtlSynth.K_WIRE, w), RtlSynth.ERR_UNDEF);
        }
        for (int o = 0; o < 4; o++) {
            RtlSynth y = new RtlSynth(maxTokens);
            check.due("fresh OUTDEF(" + o + ")", y.token(RtlSynth.K_OUTDEF, o), RtlSynth.OK);
        }
    }
}
