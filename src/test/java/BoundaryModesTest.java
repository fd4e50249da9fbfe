/**
 * Promise 6: "replacing the mode argument of any clock call whose mode is MODE_RTL or MODE_GATES by the other
 * of the two leaves the answer of every call in the sequence unchanged". Each run is made with every choice
 * of modes for its clock calls.
 */
public final class BoundaryModesTest {
    private static final int CLOCKS = 6;
    private static final Check check = new Check();

    public static void main(String[] args) {
        check.about("The effect does not depend on which of the two modes is used");
        sameAnswers("nothing", 8, "");
        sameAnswers("wrap-around", 40, "REGSET 0 NUM 1 ADD REG 0 NUM 255 REGSET 1 NUM 1 SUB REG 1 IN 0"
                + " REGSET 2 NUM 1 NEG REG 2 REGSET 3 NUM 1 SHL 1 NOT REG 3");
        sameAnswers("comparisons", 48, "REGSET 0 LTS REG 0 REG 1 ADD REG 0 NUM 51 REGSET 1 LTU REG 1 REG 0"
                + " XOR REG 1 NUM 129 REGSET 2 EQ REG 0 REG 1 NOT REG 2 OUTDEF 0 LTS REG 1 NUM 128");
        sameAnswers("choices", 40, "WIREDEF 7 MUX BIT 7 REG 7 SHR 1 REG 7 OR REG 6 IN 3 WIREDEF 0 AND WIRE 7 IN 2"
                + " REGSET 7 NUM 1 WIRE 7 REGSET 6 WIRE 0 SUB WIRE 0 WIRE 7"
                + " REGSET 7 BIT 0 REG 6 NUM 0 OUTDEF 3 WIRE 0");
        sameAnswers("ring", 48, "REGSET 0 NUM 1 REG 1 REGSET 1 NUM 1 REG 2 REGSET 2 NUM 1 REG 3 REGSET 3 NUM 1 REG 0"
                + " REGSET 4 REG 0 REG 5 REGSET 5 REG 4 REG 6 REGSET 6 NUM 1 REG 7 REGSET 7 IN 0 REG 4");
        longestProgram("ADD");
        longestProgram("SUB");
        longestProgram("LTS");
        longestProgram("EQ");
        longestProgram("MUX");
        check.finish();
    }

    /** 48 tokens, most of them one operator. */
    private static void longestProgram(String operator) {
        int operands = operator.equals("MUX") ? 3 : 2;
        int count = (48 - 3) / operands;
        String program = "REGSET 0 NUM 1" + (" " + operator).repeat(count);
        for (int i = 0; i < 1 + count * (operands - 1); i++) program += i % 2 == 0 ? " REG 0" : " IN " + i % 4;
        sameAnswers("longest with " + operator, 48, program);
    }

    private static void sameAnswers(String name, int limit, String program) {
        String first = answers(limit, program, 0);
        for (int modes = 1; modes < 1 << CLOCKS; modes++) {
            check.due(name + ", modes " + Integer.toBinaryString(modes), answers(limit, program, modes), first);
        }
    }

    /** Everything that can change what a clock sees stands between the clocks. */
    private static String answers(int limit, String program, int modes) {
        RtlSynth x = check.compiled(limit, program);
        State.fill(x);
        StringBuilder text = new StringBuilder();
        for (int i = 0; i < CLOCKS; i++) {
            int mode = modes >> i & 1;
            text.append(x.clock(mode, i == 0 ? 1 : i == 1 ? 8 : i)).append(' ');
            text.append(x.clock(mode, 9)).append(x.clock(mode, 0)).append(' ');
            text.append(Check.seen(x)).append('\n');
            if (i == 1) x.setRegister(i % 8, -1 - i);
            if (i == 2) x.setInput(i % 4, 256 + 128 + i);
            if (i == 3) x.reset();
            if (i == 4) x.setInput(0, Integer.MIN_VALUE);
        }
        return text.toString();
    }
}
