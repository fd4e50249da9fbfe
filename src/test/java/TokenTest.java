/** Promises 2, 13 and 14: which tokens are taken, and what they do to count, need and the defined sets. */
public final class TokenTest {
    private static final int[] LOWEST = {0, 0, 0, 0, 0, 1, 0, 0, 0, 0, 0, 0};
    private static final int[] HIGHEST = {0, 255, 3, 7, 7, 11, 7, 7, 7, 7, 3, 7};
    private static final Check check = new Check();

    public static void main(String[] args) {
        kinds();
        valueRanges();
        needOfEachToken();
        syntax();
        definedOnlyWhenComplete();
        definedOnlyOnce();
        registersAnyNumberOfTimes();
        orderOfConditions();
        acceptedTokenLeavesTheRest();
        check.finish();
    }

    private static void refused(RtlSynth x, int kind, int value, int answer) {
        String before = Check.seen(x);
        String call = "token(" + kind + ", " + value + ")";
        check.due(call, x.token(kind, value), answer);
        check.due("refused " + call, Check.seen(x), before);
    }

    private static void kinds() {
        int[] wrong = {Integer.MIN_VALUE, -1, 0, 12, 13, 255, Integer.MAX_VALUE};
        for (int kind : wrong) {
            RtlSynth x = new RtlSynth(20);
            refused(x, kind, 1, RtlSynth.ERR_KIND);
            check.feed(x, RtlSynth.K_WIREDEF, 0);
            refused(x, kind, 1, RtlSynth.ERR_KIND);
        }
    }

    /** A new object for each value, with an open statement where the kind needs one. */
    private static RtlSynth readyFor(int kind) {
        RtlSynth x = new RtlSynth(48);
        for (int w = 0; w < 8; w++) {
            if (kind == RtlSynth.K_WIRE) check.feed(x, RtlSynth.K_WIREDEF, w, RtlSynth.K_NUM, w);
        }
        if (kind < RtlSynth.K_WIREDEF) check.feed(x, RtlSynth.K_REGSET, 0);
        return x;
    }

    private static void valueRanges() {
        int[] far = {Integer.MIN_VALUE, Integer.MIN_VALUE + 1, -256, 512, 1 << 16, Integer.MAX_VALUE};
        for (int kind = 1; kind <= 11; kind++) {
            for (int value = -3; value <= 260; value++) {
                RtlSynth x = readyFor(kind);
                if (value < LOWEST[kind] || value > HIGHEST[kind]) {
                    refused(x, kind, value, RtlSynth.ERR_VALUE);
                } else {
                    check.feed(x, kind, value);
                }
            }
            for (int value : far) {
                refused(readyFor(kind), kind, value, RtlSynth.ERR_VALUE);
            }
        }
    }

    private static void needOfEachToken() {
        for (int kind = 1; kind <= 11; kind++) {
            for (int value = LOWEST[kind]; value <= HIGHEST[kind]; value++) {
                RtlSynth x = readyFor(kind);
                int count = x.getTokenCount();
                int need = x.getNeed();
                check.feed(x, kind, value);
                int due = kind == 11 ? 2 : kind >= 9 ? 1 : need - 1 + Model.arity(kind, value);
                String call = "token(" + kind + ", " + value + ")";
                check.due("getNeed() after " + call, x.getNeed(), due);
                check.due("getTokenCount() after " + call, x.getTokenCount(), count + 1);
            }
        }
        RtlSynth deep = new RtlSynth(48);
        check.feed(deep, RtlSynth.K_REGSET, 3);
        for (int i = 1; i < 48; i++) check.feed(deep, RtlSynth.K_OP, RtlSynth.OP_MUX);
        check.due("getNeed() of 47 MUX", deep.getNeed(), 2 + 47 * 2);
    }

    private static void syntax() {
        RtlSynth x = new RtlSynth(48);
        for (int kind = 1; kind <= 8; kind++) refused(x, kind, 1, RtlSynth.ERR_SYNTAX);
        for (int opening = 9; opening <= 11; opening++) {
            check.feed(x, opening, 0);
            for (int kind = 9; kind <= 11; kind++) refused(x, kind, 1, RtlSynth.ERR_SYNTAX);
            check.feed(x, RtlSynth.K_NUM, 1);
            if (opening == RtlSynth.K_REGSET) {
                for (int kind = 9; kind <= 11; kind++) refused(x, kind, 1, RtlSynth.ERR_SYNTAX);
                check.feed(x, RtlSynth.K_NUM, 1);
            }
            for (int kind = 1; kind <= 8; kind++) refused(x, kind, 1, RtlSynth.ERR_SYNTAX);
        }
    }

    private static void definedOnlyWhenComplete() {
        for (int w = 0; w < 8; w++) {
            RtlSynth x = new RtlSynth(48);
            check.feed(x, RtlSynth.K_WIREDEF, w);
            refused(x, RtlSynth.K_WIRE, w, RtlSynth.ERR_UNDEF);
            check.feed(x, RtlSynth.K_OP, RtlSynth.OP_ADD);
            refused(x, RtlSynth.K_WIRE, w, RtlSynth.ERR_UNDEF);
            check.feed(x, RtlSynth.K_NUM, 1);
            refused(x, RtlSynth.K_WIRE, w, RtlSynth.ERR_UNDEF);
            check.feed(x, RtlSynth.K_NUM, 2, RtlSynth.K_OUTDEF, 0);
            for (int other = 0; other < 8; other++) {
                if (other != w) refused(x, RtlSynth.K_WIRE, other, RtlSynth.ERR_UNDEF);
            }
            check.feed(x, RtlSynth.K_WIRE, w);
        }
    }

    private static void definedOnlyOnce() {
        for (int n = 0; n < 8; n++) {
            RtlSynth x = new RtlSynth(48);
            check.feed(x, RtlSynth.K_WIREDEF, n, RtlSynth.K_NUM, 9);
            refused(x, RtlSynth.K_WIREDEF, n, RtlSynth.ERR_REDEF);
            check.feed(x, RtlSynth.K_OUTDEF, n & 3, RtlSynth.K_NUM, 9);
            refused(x, RtlSynth.K_OUTDEF, n & 3, RtlSynth.ERR_REDEF);
            refused(x, RtlSynth.K_WIREDEF, n, RtlSynth.ERR_REDEF);
            for (int o = 0; o < 4; o++) {
                if (o != (n & 3)) check.feed(x, RtlSynth.K_OUTDEF, o, RtlSynth.K_WIRE, n);
            }
            for (int w = 0; w < 8; w++) {
                if (w != n) check.feed(x, RtlSynth.K_WIREDEF, w, RtlSynth.K_WIRE, n);
            }
        }
    }

    private static void registersAnyNumberOfTimes() {
        RtlSynth x = new RtlSynth(48);
        for (int i = 0; i < 16; i++) {
            check.feed(x, RtlSynth.K_REGSET, 5, RtlSynth.K_NUM, 1, RtlSynth.K_NUM, i);
        }
        check.due("getTokenCount() of 16 REGSET(5)", x.getTokenCount(), 48);
        RtlSynth y = new RtlSynth(48);
        check.feed(y, RtlSynth.K_REGSET, 2, RtlSynth.K_NUM, 1, RtlSynth.K_NUM, 7);
        check.feed(y, RtlSynth.K_OUTDEF, 2);
        refused(y, RtlSynth.K_WIRE, 2, RtlSynth.ERR_UNDEF);
        check.feed(y, RtlSynth.K_NUM, 0, RtlSynth.K_WIREDEF, 2, RtlSynth.K_NUM, 0);
    }

    private static void orderOfConditions() {
        RtlSynth full = new RtlSynth(8);
        check.feed(full, 9, 0, 1, 5, 10, 0, 1, 5, 9, 1, 1, 5, 9, 2, 1, 5);
        refused(full, 0, 999, RtlSynth.ERR_KIND);
        refused(full, 1, 256, RtlSynth.ERR_VALUE);
        refused(full, 5, 0, RtlSynth.ERR_VALUE);
        refused(full, 1, 0, RtlSynth.ERR_FULL);
        refused(full, 9, 0, RtlSynth.ERR_FULL);
        refused(full, 10, 0, RtlSynth.ERR_FULL);
        refused(full, 4, 7, RtlSynth.ERR_FULL);
        refused(full, 11, 0, RtlSynth.ERR_FULL);

        RtlSynth fullAndOpen = new RtlSynth(8);
        check.feed(fullAndOpen, 9, 0, 5, 1, 5, 1, 5, 1, 5, 1, 5, 1, 5, 1, 5, 1);
        refused(fullAndOpen, 4, 0, RtlSynth.ERR_FULL);
        refused(fullAndOpen, 9, 0, RtlSynth.ERR_FULL);

        RtlSynth open = new RtlSynth(20);
        check.feed(open, 9, 3, 1, 5, 10, 3, 1, 5);
        refused(open, 4, 6, RtlSynth.ERR_SYNTAX);
        refused(open, 4, 8, RtlSynth.ERR_VALUE);
        check.feed(open, 11, 0);
        refused(open, 9, 3, RtlSynth.ERR_SYNTAX);
        refused(open, 10, 3, RtlSynth.ERR_SYNTAX);
        refused(open, 9, 8, RtlSynth.ERR_VALUE);

        full.compile();
        int[][] any = {{0, 0}, {12, -1}, {1, 256}, {1, 0}, {9, 0}, {9, 7}, {4, 7}, {11, 0}};
        for (int[] pair : any) refused(full, pair[0], pair[1], RtlSynth.ERR_SEALED);
    }

    private static void acceptedTokenLeavesTheRest() {
        RtlSynth x = new RtlSynth(48);
        for (int r = 0; r < 8; r++) x.setRegister(r, 10 + r);
        for (int p = 0; p < 4; p++) x.setInput(p, 20 + p);
        check.feed(x, 9, 0, 1, 5, 10, 0, 4, 0, 11, 0, 2, 1, 3, 1, 11, 7, 1, 1, 6, 1, 3, 7);
        for (int r = 0; r < 8; r++) check.due("getRegister(" + r + ")", x.getRegister(r), 10 + r);
        for (int p = 0; p < 4; p++) check.due("getInput(" + p + ")", x.getInput(p), 20 + p);
        check.due("isCompiled() after tokens", x.isCompiled(), false);
        check.due("getCycles() after tokens", x.getCycles(), 0);
    }
}
