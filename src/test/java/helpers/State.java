/**
 * The states that the document's words "in every state" speak of. Each can be made any number of times,
 * so that an object that got a call can be compared with a twin that did not.
 */
enum State {
    FRESH(40, ""),
    NO_TOKENS(40, ""),
    OPEN_WIREDEF(40, "WIREDEF 1 NUM 7 WIREDEF 2"),
    OPEN_OUTDEF(40, "WIREDEF 1 NUM 7 OUTDEF 2 SUB WIRE 1"),
    OPEN_GUARD(40, "WIREDEF 1 IN 0 OUTDEF 2 WIRE 1 REGSET 3"),
    OPEN_VALUE(40, "WIREDEF 1 IN 0 REGSET 3 NUM 1 MUX REG 0"),
    BETWEEN_STATEMENTS(40, "WIREDEF 1 ADD IN 0 REG 3 OUTDEF 2 WIRE 1 REGSET 3 NUM 1 WIRE 1"),
    FULL(8, Text.EIGHT),
    FULL_AND_OPEN(8, "WIREDEF 1 IN 0 REGSET 3 NUM 1 MUX REG 0 ADD REG 3"),
    COMPILED_EMPTY(40, ""),
    COMPILED(40, Text.WHOLE),
    COMPILED_FULL(8, Text.EIGHT),
    CLOCKED_RTL(40, Text.WHOLE),
    CLOCKED_GATES(40, Text.WHOLE),
    RESET(40, Text.WHOLE);

    private static final class Text {
        static final String WHOLE =
                "WIREDEF 1 ADD IN 0 REG 3 OUTDEF 2 WIRE 1 REGSET 3 NUM 1 WIRE 1 REGSET 0 IN 1 NEG REG 0";
        static final String EIGHT = "WIREDEF 1 IN 0 OUTDEF 2 WIRE 1 REGSET 3 IN 1 NOT REG 3";
    }

    final int limit;
    private final int[] pairs;

    State(int limit, String program) {
        this.limit = limit;
        this.pairs = Design.pairs(program);
    }

    boolean compiled() {
        return ordinal() >= COMPILED_EMPTY.ordinal();
    }

    boolean clocked() {
        return ordinal() >= CLOCKED_RTL.ordinal();
    }

    int tokens() {
        return pairs.length / 2;
    }

    RtlSynth make() {
        RtlSynth x = new RtlSynth(limit);
        if (this == FRESH) return x;
        fill(x);
        for (int i = 0; i < pairs.length; i += 2) x.token(pairs[i], pairs[i + 1]);
        if (compiled()) x.compile();
        if (clocked()) x.clock(this == CLOCKED_GATES ? 1 : 0, 5);
        if (this == RESET) x.reset();
        return x;
    }

    /** No two of these values are equal and none is 0, so a mixed up or lost one shows. */
    static void fill(RtlSynth x) {
        for (int r = 0; r < 8; r++) x.setRegister(r, 201 + r);
        for (int p = 0; p < 4; p++) x.setInput(p, 101 + p);
    }

    /** The same state in the model. */
    Model model() {
        Model x = new Model(limit);
        if (this == FRESH) return x;
        for (int r = 0; r < 8; r++) x.setRegister(r, 201 + r);
        for (int p = 0; p < 4; p++) x.setInput(p, 101 + p);
        for (int i = 0; i < pairs.length; i += 2) x.token(pairs[i], pairs[i + 1]);
        if (compiled()) x.compile();
        if (clocked()) x.clock(0, 5);
        if (this == RESET) x.reset();
        return x;
    }
}
