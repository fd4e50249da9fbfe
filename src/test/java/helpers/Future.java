import java.util.function.Supplier;

/**
 * The answers of two long fixed runs of calls. Objects with equal futures are in the same state, also in
 * what no getter shows: the tokens themselves, the token limit and the defined sets.
 */
final class Future {
    private final RtlSynth x;
    private final StringBuilder text = new StringBuilder();

    private Future(RtlSynth x) {
        this.x = x;
    }

    /** Asks for two equal objects, because a run to the token limit may leave a statement open for good. */
    static String of(Supplier<RtlSynth> equalObjects) {
        Future soon = new Future(equalObjects.get());
        soon.seen();
        soon.closeStatement();
        soon.compileAndClock();
        Future late = new Future(equalObjects.get());
        late.closeStatement();
        late.defineTheRest();
        late.fill();
        return soon.text + "\n" + late.text;
    }

    private void seen() {
        text.append(Check.seen(x)).append('\n');
    }

    private int token(String kind, int value) {
        int answer = x.token(Design.kind(kind), value);
        text.append(answer).append(':').append(x.getNeed()).append(' ');
        return answer;
    }

    /** Reads the wires that may be defined, then ends the open statement, if there is one and room for it. */
    private void closeStatement() {
        token("WIRE", 1);
        token("WIRE", 2);
        for (int i = 0; i < 100 && x.getNeed() > 0; i++) token("NUM", 31 + i);
        token("REGSET", 5);
        token("WIRE", 1);
        for (int i = 0; i < 3 && x.getNeed() > 0; i++) token("REG", 3 + i);
        text.append('\n');
    }

    private void defineTheRest() {
        for (int n = 0; n < 8; n++) {
            if (token("WIREDEF", n) == 0) token("REG", n);
            if (n < 4 && token("OUTDEF", n) == 0) token("WIRE", n);
        }
        text.append('\n');
    }

    private void fill() {
        token("REGSET", 6);
        for (int i = 0; i < 50; i++) token("BIT", 3);
        token("NUM", 1);
        seen();
    }

    private void compileAndClock() {
        text.append(x.compile()).append(' ');
        seen();
        for (int mode = 0; mode <= 1; mode++) {
            text.append(x.clock(mode, 3)).append(' ');
            seen();
            x.setInput(1, 9);
            x.setRegister(3, 77);
            text.append(x.clock(mode, 1)).append(' ');
            seen();
        }
        x.reset();
        text.append(x.clock(1, 2)).append(' ');
        seen();
    }
}
