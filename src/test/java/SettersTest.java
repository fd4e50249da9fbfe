/** Promises 4, 5, 8 and 9: inputs and registers take the low eight bits, in every state. */
public final class SettersTest {
    private static final int[] VALUES = {
        0, 1, 127, 128, 254, 255, 256, 257, 511, 512, 65535, 65536, -1, -2, -127, -128, -255, -256, -257,
        0x12345678, Integer.MAX_VALUE, Integer.MIN_VALUE, Integer.MIN_VALUE + 1};
    private static final int[] NOWHERE = {
        Integer.MIN_VALUE, -256, -2, -1, 8, 9, 255, 256, 1 << 30, Integer.MAX_VALUE};
    private static final Check check = new Check();

    public static void main(String[] args) {
        setters(new RtlSynth(8));
        RtlSynth open = new RtlSynth(8);
        check.feed(open, 11, 0, 2, 0);
        setters(open);
        RtlSynth compiled = new RtlSynth(8);
        check.feed(compiled, 11, 0, 2, 0, 2, 1, 10, 0, 3, 7);
        compiled.compile();
        compiled.clock(1, 3);
        setters(compiled);
        check.finish();
    }

    private static void setters(RtlSynth x) {
        int[] registers = new int[8];
        int[] inputs = new int[4];
        for (int value : VALUES) {
            for (int i = 0; i < 8; i++) {
                int given = value + 3 * i;
                String call = "setRegister(" + i + ", " + given + ")";
                check.due(call, x.setRegister(i, given), true);
                registers[i] = Math.floorMod(given, 256);
                holds(x, call, registers, inputs);
            }
            for (int i = 0; i < 4; i++) {
                int given = value - 5 * i;
                String call = "setInput(" + i + ", " + given + ")";
                check.due(call, x.setInput(i, given), true);
                inputs[i] = Math.floorMod(given, 256);
                holds(x, call, registers, inputs);
            }
        }
        for (int place : NOWHERE) {
            refusedAt(x, place);
            check.due("setRegister(" + place + ", 77)", x.setRegister(place, 77), false);
            check.due("getRegister(" + place + ")", x.getRegister(place), -1);
        }
        for (int port = 4; port < 8; port++) refusedAt(x, port);
        holds(x, "refused setters", registers, inputs);
    }

    private static void refusedAt(RtlSynth x, int port) {
        check.due("setInput(" + port + ", 77)", x.setInput(port, 77), false);
        check.due("getInput(" + port + ")", x.getInput(port), -1);
    }

    private static int cyclesOf(RtlSynth x) {
        return x.isCompiled() ? 3 : 0;
    }

    private static void holds(RtlSynth x, String call, int[] registers, int[] inputs) {
        for (int i = 0; i < 8; i++) check.due(call + ", getRegister(" + i + ")", x.getRegister(i), registers[i]);
        for (int i = 0; i < 4; i++) check.due(call + ", getInput(" + i + ")", x.getInput(i), inputs[i]);
        check.due(call + ", getCycles()", x.getCycles(), cyclesOf(x));
    }
}
