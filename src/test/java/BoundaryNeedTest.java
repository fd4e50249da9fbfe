/** Boundary cases of Need, of the second half of promise 2, and of promises 13 and 14. */
public final class BoundaryNeedTest {
    private static final Check check = new Check();

    public static void main(String[] args) {
        statementSetsNeed();
        noOperand();
        oneOperand();
        twoOperands();
        threeOperands();
        greatestNeed();
        wireOnlyWhenComplete();
        outputOnlyWhenComplete();
        wireInsideItsOwnStatement();
        wireStaysUndefinedWhenFull();
        regsetDefinesNothing();
        anyNumberOfRegsets();
        needZeroWhenNoneOpen();
        countFromZeroToLimit();
        countOnlyAccepted();
        acceptedTokenKeepsTheRest();
        check.finish();
    }

    private static void needAfter(String program, int need) {
        RtlSynth x = check.fed(48, program);
        check.due("getNeed() after " + program, x.getNeed(), need);
        check.due("getTokenCount() after " + program, x.getTokenCount(), Design.pairs(program).length / 2);
    }

    private static void statementSetsNeed() {
        check.about("WIREDEF and OUTDEF set need to 1; REGSET sets need to 2.");
        for (int n = 0; n < 8; n++) {
            needAfter("WIREDEF " + n, 1);
            if (n < 4) needAfter("OUTDEF " + n, 1);
            needAfter("REGSET " + n, 2);
            needAfter("WIREDEF 1 NUM 1 OUTDEF 1 WIRE 1 REGSET " + n, 2);
        }
    }

    /** The same token at need 1, 2 and 5. */
    private static void changesNeedBy(String token, int change) {
        needAfter("WIREDEF 6 NUM 1 OUTDEF 0 " + token, 1 + change);
        needAfter("WIREDEF 6 NUM 1 REGSET 0 " + token, 2 + change);
        needAfter("WIREDEF 6 NUM 1 REGSET 0 NUM 1 MUX MUX " + token, 5 + change);
    }

    private static void noOperand() {
        check.about("arity 0 tokens (NUM, IN, REG, WIRE) lower it by 1");
        for (String token : new String[] {"NUM 0", "NUM 255", "IN 0", "IN 3", "REG 0", "REG 7", "WIRE 6"}) {
            changesNeedBy(token, -1);
        }
    }

    private static void oneOperand() {
        check.about("arity 1 tokens (OP with NOT or NEG, SHL, SHR, BIT) leave it equal");
        for (String token : new String[] {"NOT", "NEG", "SHL 0", "SHL 7", "SHR 0", "SHR 7", "BIT 0", "BIT 7"}) {
            changesNeedBy(token, 0);
        }
    }

    private static void twoOperands() {
        check.about("arity 2 opcodes raise it by 1");
        for (String token : new String[] {"ADD", "SUB", "AND", "OR", "XOR", "EQ", "LTU", "LTS"}) {
            changesNeedBy(token, 1);
        }
    }

    private static void threeOperands() {
        check.about("OP with MUX raises it by 2.");
        changesNeedBy("MUX", 2);
    }

    private static void greatestNeed() {
        check.about("An expression token sets need to need - 1 + arity");
        RtlSynth x = check.fed(48, "REGSET 7" + " MUX".repeat(47));
        check.due("getNeed() of 47 MUX", x.getNeed(), 2 + 2 * 47);
        check.refused(x, 5, 11, RtlSynth.ERR_FULL);
        check.refused(x, 1, 0, RtlSynth.ERR_FULL);
        check.due("compile()", x.compile(), RtlSynth.ERR_INCOMPLETE);
    }

    private static void wireOnlyWhenComplete() {
        check.about("Only then does a WIREDEF(w) statement make wire w defined");
        for (int w = 0; w < 8; w++) {
            RtlSynth x = check.fed(20, "WIREDEF " + w + " MUX NUM 1 NUM 2");
            check.refused(x, 4, w, RtlSynth.ERR_UNDEF);
            check.feed(x, "NUM 3");
            check.refused(x, 9, w, RtlSynth.ERR_REDEF);
            check.feed(x, "OUTDEF 0 WIRE " + w);
        }
    }

    private static void outputOnlyWhenComplete() {
        check.about("or an OUTDEF(o) statement make output o defined.");
        for (int o = 0; o < 4; o++) {
            RtlSynth x = check.fed(20, "OUTDEF " + o + " MUX NUM 1 NUM 2");
            check.refused(x, 10, o, RtlSynth.ERR_SYNTAX);
            check.feed(x, "NUM 3");
            check.refused(x, 10, o, RtlSynth.ERR_REDEF);
            for (int other = 0; other < 4; other++) {
                if (other != o) check.feed(x, "OUTDEF " + other + " NUM 0");
            }
        }
    }

    private static void wireInsideItsOwnStatement() {
        check.about("While a WIREDEF(w) statement is still open, wire w is not defined,"
                + " so WIRE(w) inside it is answered `ERR_UNDEF`");
        for (int w = 0; w < 8; w++) {
            for (String inside : new String[] {"", "NOT", "ADD", "ADD NUM 1", "MUX", "MUX NUM 1", "MUX NUM 1 NUM 1"}) {
                RtlSynth x = check.fed(20, "WIREDEF " + w + " " + inside);
                check.refused(x, 4, w, RtlSynth.ERR_UNDEF);
            }
        }
    }

    private static void wireStaysUndefinedWhenFull() {
        check.about("While a WIREDEF(w) statement is still open, wire w is not defined");
        RtlSynth x = check.fed(8, "WIREDEF 5" + " NEG".repeat(7));
        check.refused(x, 4, 5, RtlSynth.ERR_FULL);
        check.due("getNeed()", x.getNeed(), 1);
        check.due("compile()", x.compile(), RtlSynth.ERR_INCOMPLETE);
        check.due("getWire(5)", x.getWire(5), -1);
    }

    private static void regsetDefinesNothing() {
        check.about("A completed REGSET statement defines nothing");
        for (int r = 0; r < 8; r++) {
            RtlSynth x = check.fed(20, "REGSET " + r + " NUM 1 NUM 9 REGSET 0");
            check.refused(x, 4, r, RtlSynth.ERR_UNDEF);
            check.feed(x, "NUM 0 NUM 0");
            check.due("compile()", x.compile(), RtlSynth.OK);
            check.due("getWire(" + r + ")", x.getWire(r), 0);
            check.due("getOutput(" + r % 4 + ")", x.getOutput(r % 4), 0);
            check.fed(20, "REGSET " + r + " NUM 1 NUM 9 WIREDEF " + r + " NUM 1 OUTDEF " + r % 4 + " NUM 1");
        }
    }

    private static void anyNumberOfRegsets() {
        check.about("a register may have any number of REGSET statements.");
        for (int r = 0; r < 8; r++) {
            RtlSynth x = check.compiled(48, ("REGSET " + r + " NUM 1 NUM 9 ").repeat(16));
            check.due("getTokenCount()", x.getTokenCount(), 48);
            check.due("getNext(" + r + ")", x.getNext(r), 9);
        }
    }

    private static void needZeroWhenNoneOpen() {
        check.about("`getNeed()` answers the current need, 0 when no statement is open.");
        needAfter("", 0);
        needAfter("WIREDEF 0 NUM 1", 0);
        needAfter("OUTDEF 0 MUX NUM 1 NUM 1 NUM 1", 0);
        needAfter("REGSET 0 NUM 1", 1);
        needAfter("REGSET 0 NUM 1 NUM 1", 0);
        RtlSynth x = new RtlSynth(8);
        check.refused(x, 1, 1, RtlSynth.ERR_SYNTAX);
        check.due("getNeed() after a refused token", x.getNeed(), 0);
        for (State state : State.values()) {
            check.due(state + " getNeed()", state.make().getNeed(), state.model().getNeed());
        }
    }

    private static void countFromZeroToLimit() {
        check.about("answers the number of tokens accepted so far (0..token limit).");
        for (int limit = 8; limit <= 48; limit++) {
            RtlSynth x = new RtlSynth(limit);
            check.due("getTokenCount() of none", x.getTokenCount(), 0);
            check.feed(x, "WIREDEF 0");
            for (int i = 1; i < limit; i++) {
                check.due("getTokenCount()", x.getTokenCount(), i);
                check.feed(x, i == limit - 1 ? "NUM 1" : "NOT");
            }
            check.due("getTokenCount() of all", x.getTokenCount(), limit);
            check.due("compile()", x.compile(), RtlSynth.OK);
            check.due("getTokenCount() after compile", x.getTokenCount(), limit);
        }
    }

    private static void countOnlyAccepted() {
        check.about("answers the number of tokens accepted so far");
        RtlSynth x = new RtlSynth(8);
        for (int i = 0; i < 20; i++) {
            x.token(0, 0);
            x.token(1, 256);
            x.token(1, 1);
        }
        check.due("getTokenCount() after refused ones", x.getTokenCount(), 0);
        check.feed(x, "WIREDEF 0" + " NOT".repeat(6) + " NUM 1");
        for (int i = 0; i < 20; i++) x.token(11, 0);
        check.due("getTokenCount() after the limit", x.getTokenCount(), 8);
    }

    private static void acceptedTokenKeepsTheRest() {
        check.about("An accepted token does not change registers, inputs, the compiled flag or the cycle count.");
        String[] tokens = {"NUM 255", "IN 3", "REG 7", "WIRE 0", "NOT", "MUX", "SHL 7", "SHR 7", "BIT 7"};
        String[] statements = {"WIREDEF 7", "OUTDEF 3", "REGSET 7"};
        for (String token : tokens) keeps("WIREDEF 0 NUM 255 REGSET 7", token);
        for (String token : tokens) keeps("WIREDEF 0 NUM 255 REGSET 7 NUM 1", token);
        for (String statement : statements) keeps("WIREDEF 0 NUM 255", statement);
    }

    private static void keeps(String before, String token) {
        RtlSynth x = check.fed(20, before);
        State.fill(x);
        check.feed(x, token);
        for (int r = 0; r < 8; r++) check.due(token + ", getRegister(" + r + ")", x.getRegister(r), 201 + r);
        for (int p = 0; p < 4; p++) check.due(token + ", getInput(" + p + ")", x.getInput(p), 101 + p);
        check.due(token + ", isCompiled()", x.isCompiled(), false);
        check.due(token + ", getCycles()", x.getCycles(), 0);
    }
}
