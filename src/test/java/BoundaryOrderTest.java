/**
 * Promise 2: "considers these conditions in this order, and the first that holds gives the answer". One
 * method for each two conditions that can hold at once.
 */
public final class BoundaryOrderTest {
    private static final String ORDER =
            "`token(kind, value)` considers these conditions in this order, and the first that holds gives the answer:";
    private static final Check check = new Check();

    public static void main(String[] args) {
        sealedBeforeAll();
        kindBeforeFull();
        kindBeforeSyntax();
        valueBeforeFull();
        valueBeforeSyntax();
        fullBeforeSyntax();
        fullBeforeRedefinition();
        fullBeforeUndefined();
        syntaxBeforeRedefinition();
        syntaxBeforeUndefined();
        check.finish();
    }

    private static void sealedBeforeAll() {
        check.about(ORDER, "1 before 2 to 7");
        RtlSynth x = check.compiled(8, "WIREDEF 0 NUM 1 OUTDEF 0 NOT NOT NOT NUM 1");
        check.due("getTokenCount()", x.getTokenCount(), 7);
        check.refused(x, 0, 0, RtlSynth.ERR_SEALED);
        check.refused(x, Integer.MIN_VALUE, Integer.MAX_VALUE, RtlSynth.ERR_SEALED);
        check.refused(x, 1, 256, RtlSynth.ERR_SEALED);
        check.refused(x, 1, 1, RtlSynth.ERR_SEALED);
        check.refused(x, 9, 0, RtlSynth.ERR_SEALED);
        check.refused(x, 10, 0, RtlSynth.ERR_SEALED);
        check.refused(x, 4, 1, RtlSynth.ERR_SEALED);
        check.refused(State.COMPILED_FULL.make(), 11, 0, RtlSynth.ERR_SEALED);
        check.refused(State.COMPILED_FULL.make(), 12, 0, RtlSynth.ERR_SEALED);
        check.refused(State.COMPILED_FULL.make(), 11, 8, RtlSynth.ERR_SEALED);
    }

    private static void kindBeforeFull() {
        check.about(ORDER, "2 before 4");
        for (int kind : new int[] {Integer.MIN_VALUE, -1, 0, 12, Integer.MAX_VALUE}) {
            check.refused(State.FULL.make(), kind, 0, RtlSynth.ERR_KIND);
            check.refused(State.FULL_AND_OPEN.make(), kind, 0, RtlSynth.ERR_KIND);
        }
    }

    private static void kindBeforeSyntax() {
        check.about(ORDER, "2 before 5");
        for (int value : new int[] {Integer.MIN_VALUE, -1, 0, 999, Integer.MAX_VALUE}) {
            check.refused(State.FRESH.make(), 0, value, RtlSynth.ERR_KIND);
            check.refused(State.OPEN_GUARD.make(), 12, value, RtlSynth.ERR_KIND);
        }
    }

    private static void valueBeforeFull() {
        check.about(ORDER, "3 before 4");
        int[] tooHigh = {0, 256, 4, 8, 8, 12, 8, 8, 8, 8, 4, 8};
        for (int kind = 1; kind <= 11; kind++) {
            check.refused(State.FULL.make(), kind, tooHigh[kind], RtlSynth.ERR_VALUE);
            check.refused(State.FULL.make(), kind, -1, RtlSynth.ERR_VALUE);
            check.refused(State.FULL_AND_OPEN.make(), kind, tooHigh[kind], RtlSynth.ERR_VALUE);
            check.refused(State.FULL_AND_OPEN.make(), kind, -1, RtlSynth.ERR_VALUE);
        }
        check.refused(State.FULL.make(), 5, 0, RtlSynth.ERR_VALUE);
    }

    private static void valueBeforeSyntax() {
        check.about(ORDER, "3 before 5");
        int[] tooHigh = {0, 256, 4, 8, 8, 12, 8, 8, 8, 8, 4, 8};
        for (int kind = 1; kind <= 11; kind++) {
            State state = kind <= 8 ? State.FRESH : State.OPEN_WIREDEF;
            check.refused(state.make(), kind, tooHigh[kind], RtlSynth.ERR_VALUE);
            check.refused(state.make(), kind, -1, RtlSynth.ERR_VALUE);
        }
        check.refused(State.FRESH.make(), 5, 0, RtlSynth.ERR_VALUE);
    }

    private static void fullBeforeSyntax() {
        check.about(ORDER, "4 before 5");
        for (int kind = 1; kind <= 8; kind++) check.refused(State.FULL.make(), kind, 1, RtlSynth.ERR_FULL);
        for (int kind = 9; kind <= 11; kind++) check.refused(State.FULL_AND_OPEN.make(), kind, 0, RtlSynth.ERR_FULL);
    }

    private static void fullBeforeRedefinition() {
        check.about(ORDER, "4 before 6");
        check.refused(State.FULL.make(), 9, 1, RtlSynth.ERR_FULL);
        check.refused(State.FULL.make(), 10, 2, RtlSynth.ERR_FULL);
    }

    private static void fullBeforeUndefined() {
        check.about("for example `ERR_FULL` when the token count equals the token limit");
        check.refused(State.FULL_AND_OPEN.make(), 4, 5, RtlSynth.ERR_FULL);
        RtlSynth own = check.fed(8, "WIREDEF 6" + " NOT".repeat(6));
        check.refused(own, 4, 6, RtlSynth.ERR_UNDEF);
        check.feed(own, "NOT");
        check.refused(own, 4, 6, RtlSynth.ERR_FULL);
    }

    private static void syntaxBeforeRedefinition() {
        check.about(ORDER, "5 before 6");
        RtlSynth x = check.fed(20, "WIREDEF 3 NUM 1 OUTDEF 3 NUM 1 REGSET 0");
        check.refused(x, 9, 3, RtlSynth.ERR_SYNTAX);
        check.refused(x, 10, 3, RtlSynth.ERR_SYNTAX);
        check.feed(x, "NUM 1");
        check.refused(x, 9, 3, RtlSynth.ERR_SYNTAX);
        check.refused(x, 10, 3, RtlSynth.ERR_SYNTAX);
        check.feed(x, "NUM 1");
        check.refused(x, 9, 3, RtlSynth.ERR_REDEF);
        check.refused(x, 10, 3, RtlSynth.ERR_REDEF);
    }

    private static void syntaxBeforeUndefined() {
        check.about(ORDER, "5 before 7");
        RtlSynth x = check.fed(20, "WIREDEF 3 NUM 1");
        check.refused(x, 4, 2, RtlSynth.ERR_SYNTAX);
        check.refused(x, 4, 3, RtlSynth.ERR_SYNTAX);
        check.feed(x, "OUTDEF 0");
        check.refused(x, 4, 2, RtlSynth.ERR_UNDEF);
    }
}
