/** Boundary cases of the token kinds, of Need and of promise 2, one method for each sentence. */
public final class BoundaryTokenTest {
    private static final int LEAST = Integer.MIN_VALUE;
    private static final int GREATEST = Integer.MAX_VALUE;
    private static final Check check = new Check();

    public static void main(String[] args) {
        sealed();
        wrongKind();
        rangeOfEachKind();
        full();
        expressionWithoutStatement();
        statementInsideStatement();
        wireTwice();
        outputTwice();
        placesDoNotMix();
        wireNotDefined();
        refusalsChangeNothing();
        check.finish();
    }

    private static void sealed() {
        check.about("the program is compiled -> `ERR_SEALED`;");
        for (State state : State.values()) {
            if (!state.compiled()) continue;
            for (int kind = 0; kind <= 12; kind++) {
                check.refused(state.make(), kind, 1, RtlSynth.ERR_SEALED);
            }
        }
    }

    private static void wrongKind() {
        check.about("kind not in 1..11 -> `ERR_KIND`;");
        int[] wrong = {LEAST, LEAST + 1, -11, -1, 0, 12, 13, 16, 255, 256 + 1, 65536 + 9, GREATEST - 1, GREATEST};
        for (int kind : wrong) {
            check.refused(State.FRESH.make(), kind, 1, RtlSynth.ERR_KIND);
            check.refused(State.OPEN_VALUE.make(), kind, 1, RtlSynth.ERR_KIND);
        }
    }

    /** The least and the greatest value are taken, the ones just outside and the farthest are not. */
    private static void range(String kind, int lowest, int highest, String sentence) {
        check.about(sentence);
        int number = Design.kind(kind);
        boolean statement = number >= 9;
        String before = "WIREDEF 0 NUM 1 WIREDEF 7 NUM 1" + (statement ? "" : " REGSET 0");
        if (kind.equals("WIREDEF")) before = "";
        int[] outside = {LEAST, LEAST + 1, -256, -255, lowest - 2, lowest - 1, highest + 1, highest + 2,
            lowest + 256, highest + 256, lowest + 65536, GREATEST - 1, GREATEST};
        for (int value : outside) {
            check.refused(check.fed(20, before), number, value, RtlSynth.ERR_VALUE);
        }
        check.feed(check.fed(20, before), number, lowest);
        check.feed(check.fed(20, before), number, highest);
    }

    private static void rangeOfEachKind() {
        range("NUM", 0, 255, "| 1 | K_NUM | 0..255 | 0 |");
        range("IN", 0, 3, "| 2 | K_IN | 0..3 | 0 |");
        range("REG", 0, 7, "| 3 | K_REG | 0..7 | 0 |");
        range("WIRE", 0, 7, "| 4 | K_WIRE | 0..7 | 0 |");
        range("OP", 1, 11, "| 5 | K_OP | 1..11 (opcode) | given with the opcode |");
        range("SHL", 0, 7, "| 6 | K_SHL | 0..7 (k) | 1 |");
        range("SHR", 0, 7, "| 7 | K_SHR | 0..7 (k) | 1 |");
        range("BIT", 0, 7, "| 8 | K_BIT | 0..7 (k) | 1 |");
        range("WIREDEF", 0, 7, "| 9 | K_WIREDEF | 0..7 | statement |");
        range("OUTDEF", 0, 3, "| 10 | K_OUTDEF | 0..3 | statement |");
        range("REGSET", 0, 7, "| 11 | K_REGSET | 0..7 | statement |");
    }

    private static void full() {
        check.about("token count == token limit -> `ERR_FULL`;");
        for (int limit : new int[] {8, 9, 47, 48}) {
            RtlSynth open = check.fed(limit, "REGSET 0" + " NOT".repeat(limit - 2));
            check.due("getTokenCount()", open.getTokenCount(), limit - 1);
            check.feed(open, "NUM 255");
            for (int kind = 1; kind <= 11; kind++) check.refused(open, kind, 1, RtlSynth.ERR_FULL);

            RtlSynth complete = check.fed(limit, "WIREDEF 0" + " NOT".repeat(limit - 2));
            check.due("getTokenCount()", complete.getTokenCount(), limit - 1);
            check.feed(complete, "NUM 255");
            for (int kind = 1; kind <= 11; kind++) check.refused(complete, kind, 1, RtlSynth.ERR_FULL);
        }
    }

    private static void expressionWithoutStatement() {
        check.about("need == 0 and kind in 1..8");
        String[] complete = {"", "WIREDEF 1 NUM 0", "OUTDEF 1 NOT NUM 0", "REGSET 1 NUM 0 NUM 0",
            "OUTDEF 1 MUX NUM 0 NUM 0 ADD NUM 0 NUM 0"};
        for (String program : complete) {
            for (int kind = 1; kind <= 8; kind++) {
                check.refused(check.fed(20, program), kind, 1, RtlSynth.ERR_SYNTAX);
            }
        }
    }

    private static void statementInsideStatement() {
        check.about("need > 0 and kind in 9..11 -> `ERR_SYNTAX`;");
        String[] open = {"WIREDEF 0", "OUTDEF 0", "REGSET 0", "REGSET 0 NUM 1", "WIREDEF 0 NOT", "OUTDEF 0 ADD NUM 1",
            "REGSET 0 MUX NUM 1 NUM 1", "REGSET 0 MUX NUM 1 NUM 1 NUM 1"};
        for (String program : open) {
            for (int kind = 9; kind <= 11; kind++) {
                check.refused(check.fed(20, program), kind, 1, RtlSynth.ERR_SYNTAX);
            }
        }
    }

    private static void wireTwice() {
        check.about("WIREDEF(w) with wire w already defined");
        for (int w = 0; w < 8; w++) {
            RtlSynth x = check.fed(20, "WIREDEF " + w + " NUM 9");
            check.refused(x, 9, w, RtlSynth.ERR_REDEF);
            check.feed(x, "REGSET 0 NUM 1 NUM 1");
            check.refused(x, 9, w, RtlSynth.ERR_REDEF);
            for (int other = 0; other < 8; other++) {
                if (other != w) check.feed(x, "WIREDEF " + other + " NUM 8");
                check.refused(x, 9, w, RtlSynth.ERR_REDEF);
            }
            x.compile();
            check.due("getWire(" + w + ")", x.getWire(w), 9);
        }
    }

    private static void outputTwice() {
        check.about("or OUTDEF(o) with output o already defined -> `ERR_REDEF`;");
        for (int o = 0; o < 4; o++) {
            RtlSynth x = check.fed(20, "OUTDEF " + o + " NUM 9");
            check.refused(x, 10, o, RtlSynth.ERR_REDEF);
            check.feed(x, "REGSET 0 NUM 1 NUM 1");
            check.refused(x, 10, o, RtlSynth.ERR_REDEF);
            for (int other = 0; other < 4; other++) {
                if (other != o) check.feed(x, "OUTDEF " + other + " NUM 8");
                check.refused(x, 10, o, RtlSynth.ERR_REDEF);
            }
            x.compile();
            check.due("getOutput(" + o + ")", x.getOutput(o), 9);
        }
    }

    private static void placesDoNotMix() {
        check.about("Each wire and each output has at most one statement.");
        for (int n = 0; n < 4; n++) {
            check.fed(20, "WIREDEF " + n + " NUM 1 OUTDEF " + n + " NUM 2 REGSET " + n + " NUM 1 NUM 3");
            check.fed(20, "OUTDEF " + n + " NUM 1 WIREDEF " + n + " NUM 2 REGSET " + n + " NUM 1 NUM 3");
            RtlSynth x = check.fed(20, "OUTDEF " + n + " NUM 1 REGSET 0 NUM 1");
            check.refused(x, 4, n, RtlSynth.ERR_UNDEF);
        }
    }

    private static void wireNotDefined() {
        check.about("WIRE(w) with wire w not defined -> `ERR_UNDEF`.");
        for (int w = 0; w < 8; w++) {
            String others = "";
            for (int other = 0; other < 8; other++) {
                if (other != w) others += "WIREDEF " + other + " NUM 1 ";
            }
            check.refused(check.fed(40, others + "OUTDEF 0"), 4, w, RtlSynth.ERR_UNDEF);
            check.refused(check.fed(40, others + "REGSET 0 WIRE " + (w ^ 1)), 4, w, RtlSynth.ERR_UNDEF);
            check.feed(check.fed(40, "WIREDEF " + w + " NUM 1 OUTDEF 0"), 4, w);
        }
    }

    private static void refusalsChangeNothing() {
        check.about("Any of these answers is a refusal and changes nothing.");
        unchanged(State.COMPILED, 11, 0, RtlSynth.ERR_SEALED);
        unchanged(State.BETWEEN_STATEMENTS, 0, 0, RtlSynth.ERR_KIND);
        unchanged(State.OPEN_VALUE, 12, 0, RtlSynth.ERR_KIND);
        unchanged(State.OPEN_VALUE, 1, 256, RtlSynth.ERR_VALUE);
        unchanged(State.BETWEEN_STATEMENTS, 9, 8, RtlSynth.ERR_VALUE);
        unchanged(State.FULL, 11, 0, RtlSynth.ERR_FULL);
        unchanged(State.FULL_AND_OPEN, 1, 0, RtlSynth.ERR_FULL);
        unchanged(State.BETWEEN_STATEMENTS, 1, 0, RtlSynth.ERR_SYNTAX);
        unchanged(State.OPEN_WIREDEF, 9, 0, RtlSynth.ERR_SYNTAX);
        unchanged(State.OPEN_GUARD, 10, 0, RtlSynth.ERR_SYNTAX);
        unchanged(State.OPEN_VALUE, 11, 0, RtlSynth.ERR_SYNTAX);
        unchanged(State.BETWEEN_STATEMENTS, 9, 1, RtlSynth.ERR_REDEF);
        unchanged(State.BETWEEN_STATEMENTS, 10, 2, RtlSynth.ERR_REDEF);
        unchanged(State.OPEN_WIREDEF, 4, 2, RtlSynth.ERR_UNDEF);
        unchanged(State.OPEN_VALUE, 4, 7, RtlSynth.ERR_UNDEF);
    }

    private static void unchanged(State state, int kind, int value, int answer) {
        check.refused(state.make(), kind, value, answer);
        String future = Future.of(() -> {
            RtlSynth x = state.make();
            for (int i = 0; i < 3; i++) x.token(kind, value);
            return x;
        });
        check.due(state + " refused token(" + kind + ", " + value + ")", future, Future.of(state::make));
    }
}
