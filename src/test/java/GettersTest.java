/** Promises 8 to 16: what the getters answer, where they answer -1, and that they change nothing. */
public final class GettersTest {
    private static final int[] NOWHERE = {
        Integer.MIN_VALUE, -256, -2, -1, 8, 9, 255, 256, 1 << 30, Integer.MAX_VALUE};
    private static final Check check = new Check();

    public static void main(String[] args) {
        notCompiled();
        undefinedIsZero();
        everyPlace();
        followsTheState();
        wiresOfWires();
        changeNothing();
        check.finish();
    }

    private static void nowhere(RtlSynth x) {
        for (int place : NOWHERE) {
            check.due("getRegister(" + place + ")", x.getRegister(place), -1);
            check.due("getInput(" + place + ")", x.getInput(place), -1);
            check.due("getWire(" + place + ")", x.getWire(place), -1);
            check.due("getOutput(" + place + ")", x.getOutput(place), -1);
            check.due("getNext(" + place + ")", x.getNext(place), -1);
        }
        for (int place = 4; place < 8; place++) {
            check.due("getInput(" + place + ")", x.getInput(place), -1);
            check.due("getOutput(" + place + ")", x.getOutput(place), -1);
        }
    }

    private static void notCompiled() {
        RtlSynth x = new RtlSynth(20);
        check.feed(x, 9, 0, 1, 5, 10, 0, 1, 5, 11, 0, 1, 1, 1, 5);
        nowhere(x);
        for (int i = 0; i < 8; i++) {
            check.due("getWire(" + i + ") before compile", x.getWire(i), -1);
            check.due("getOutput(" + i + ") before compile", x.getOutput(i), -1);
            check.due("getNext(" + i + ") before compile", x.getNext(i), -1);
        }
        x.compile();
        nowhere(x);
        check.due("getWire(0)", x.getWire(0), 5);
        check.due("getOutput(0)", x.getOutput(0), 5);
        check.due("getNext(0)", x.getNext(0), 5);
    }

    private static void undefinedIsZero() {
        RtlSynth x = new RtlSynth(20);
        check.feed(x, 9, 5, 1, 50, 10, 2, 1, 20);
        x.compile();
        for (int w = 0; w < 8; w++) check.due("getWire(" + w + ")", x.getWire(w), w == 5 ? 50 : 0);
        for (int o = 0; o < 4; o++) check.due("getOutput(" + o + ")", x.getOutput(o), o == 2 ? 20 : 0);
    }

    private static void everyPlace() {
        RtlSynth x = new RtlSynth(48);
        for (int w = 0; w < 8; w++) check.feed(x, 9, w, 3, 7 - w);
        for (int o = 0; o < 4; o++) check.feed(x, 10, o, 2, 3 - o);
        for (int r = 0; r < 8; r++) check.feed(x, 11, r, 1, 1, 3, r ^ 1);
        x.compile();
        for (int r = 0; r < 8; r++) x.setRegister(r, 30 + r);
        for (int p = 0; p < 4; p++) x.setInput(p, 80 + p);
        for (int w = 0; w < 8; w++) check.due("getWire(" + w + ")", x.getWire(w), 37 - w);
        for (int o = 0; o < 4; o++) check.due("getOutput(" + o + ")", x.getOutput(o), 83 - o);
        for (int r = 0; r < 8; r++) check.due("getNext(" + r + ")", x.getNext(r), 30 + (r ^ 1));
    }

    private static void followsTheState() {
        RtlSynth x = new RtlSynth(20);
        check.feed(x, 9, 0, 5, 3, 3, 0, 2, 0, 10, 0, 5, 4, 3, 0, 2, 0, 11, 0, 2, 1, 4, 0);
        x.compile();
        for (int i = 0; i < 300; i++) {
            x.setRegister(0, 3 * i);
            x.setInput(0, 5 * i);
            x.setInput(1, i % 2);
            check.due("getWire(0) at " + i, x.getWire(0), 8 * i % 256);
            check.due("getOutput(0) at " + i, x.getOutput(0), Math.floorMod(-2 * i, 256));
            check.due("getNext(0) at " + i, x.getNext(0), i % 2 == 0 ? 3 * i % 256 : 8 * i % 256);
        }
    }

    /** Each wire reads the one before it twice; their numbers do not rise with their places. */
    private static void wiresOfWires() {
        int[] wires = {5, 2, 7, 0, 6, 1, 4, 3};
        RtlSynth x = new RtlSynth(48);
        check.feed(x, 9, wires[0], 2, 0);
        for (int i = 1; i < 8; i++) check.feed(x, 9, wires[i], 5, 3, 4, wires[i - 1], 4, wires[i - 1]);
        check.feed(x, 11, 0, 1, 1, 4, 3);
        x.compile();
        x.setInput(0, 3);
        for (int i = 0; i < 8; i++) check.due("getWire(" + wires[i] + ")", x.getWire(wires[i]), 3 * Model.power(i) % 256);
        x.clock(1, 1);
        check.due("getRegister(0)", x.getRegister(0), 3 * 128 % 256);
        x.reset();
        x.clock(0, 1);
        check.due("getRegister(0)", x.getRegister(0), 3 * 128 % 256);
    }

    private static void changeNothing() {
        RtlSynth x = new RtlSynth(20);
        check.feed(x, 9, 0, 5, 3, 3, 0, 2, 0, 10, 0, 4, 0, 11, 0, 2, 1, 4, 0);
        x.setRegister(0, 9);
        x.setInput(0, 4);
        x.setInput(1, 4);
        String before = Check.seen(x);
        check.due("getters before compile", Check.seen(x), before);
        x.compile();
        x.clock(0, 2);
        before = Check.seen(x);
        for (int i = 0; i < 5; i++) check.due("getters after clock", Check.seen(x), before);
        check.due("getRegister(0)", x.getRegister(0), 17);
        check.due("getCycles()", x.getCycles(), 2);
    }
}
