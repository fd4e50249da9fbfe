/** Meaning, promises 6 and 10 to 12: every operator at every pair of operands, interpreted and in gates. */
public final class MeaningTest {
    private static final int[] THIRD = {0, 1, 128, 255, 170};
    private static final Check check = new Check();

    public static void main(String[] args) {
        for (int op = RtlSynth.OP_NOT; op <= RtlSynth.OP_MUX; op++) operator(op);
        for (int k = 0; k < 8; k++) shifts(k);
        numbers();
        check.finish();
    }

    /** R0 := expression of R1, R2, R3, which is also wire 0 and output 0. */
    private static RtlSynth design(int kind, int value) {
        RtlSynth x = new RtlSynth(20);
        check.feed(x, 9, 0, kind, value);
        for (int i = 1; x.getNeed() > 0; i++) check.feed(x, 3, i);
        check.feed(x, 10, 0, 4, 0, 11, 0, 1, 1, kind, value);
        for (int i = 1; x.getNeed() > 0; i++) check.feed(x, 3, i);
        x.compile();
        return x;
    }

    private static void answers(RtlSynth x, String what, int due) {
        check.due(what + " as wire", x.getWire(0), due);
        check.due(what + " as output", x.getOutput(0), due);
        check.due(what + " as next", x.getNext(0), due);
        x.setRegister(0, ~due);
        x.clock(RtlSynth.MODE_GATES, 1);
        check.due(what + " in gates", x.getRegister(0), due);
        x.setRegister(0, ~due);
        x.clock(RtlSynth.MODE_RTL, 1);
        check.due(what + " interpreted", x.getRegister(0), due);
        if (check.wrong() > 20) check.finish();
    }

    private static void operator(int op) {
        RtlSynth x = design(RtlSynth.K_OP, op);
        for (int a = 0; a < 256; a++) {
            x.setRegister(1, a);
            for (int b = 0; b < 256; b++) {
                x.setRegister(2, b);
                int c = THIRD[(a + b) % THIRD.length];
                x.setRegister(3, c);
                answers(x, "OP " + op + " of " + a + ", " + b + ", " + c, Model.operation(op, a, b, c));
            }
        }
    }

    private static void shifts(int k) {
        RtlSynth left = design(RtlSynth.K_SHL, k);
        RtlSynth right = design(RtlSynth.K_SHR, k);
        RtlSynth bit = design(RtlSynth.K_BIT, k);
        for (int a = 0; a < 256; a++) {
            left.setRegister(1, a);
            right.setRegister(1, a);
            bit.setRegister(1, a);
            answers(left, "SHL(" + k + ") " + a, a * Model.power(k) % 256);
            answers(right, "SHR(" + k + ") " + a, a / Model.power(k));
            answers(bit, "BIT(" + k + ") " + a, a / Model.power(k) % 2);
        }
    }

    private static void numbers() {
        for (int v = 0; v < 256; v++) answers(design(RtlSynth.K_NUM, v), "NUM(" + v + ")", v);
        for (int p = 0; p < 4; p++) {
            RtlSynth x = design(RtlSynth.K_IN, p);
            for (int v = 0; v < 256; v++) {
                for (int q = 0; q < 4; q++) x.setInput(q, q == p ? v : ~v);
                answers(x, "IN(" + p + ") " + v, v);
            }
        }
    }
}
