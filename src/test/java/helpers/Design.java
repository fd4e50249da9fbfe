import java.util.List;

/**
 * Programs as words, such as "REGSET 0 NUM 1 ADD REG 0 IN 2". The places of the names are the numbers of
 * the document's tables, written a second time here so that a wrong constant in RtlSynth shows.
 */
final class Design {
    private static final List<String> KINDS = List.of("", "NUM", "IN", "REG", "WIRE", "OP", "SHL", "SHR", "BIT",
            "WIREDEF", "OUTDEF", "REGSET");
    private static final List<String> OPCODES = List.of("", "NOT", "NEG", "ADD", "SUB", "AND", "OR", "XOR", "EQ",
            "LTU", "LTS", "MUX");

    private Design() {
    }

    /** The (kind, value) pairs of a program, one behind the other. */
    static int[] pairs(String program) {
        String[] words = program.isBlank() ? new String[0] : program.trim().split("\\s+");
        int[] pairs = new int[2 * words.length];
        int filled = 0;
        for (int i = 0; i < words.length; i++) {
            boolean opcode = OPCODES.contains(words[i]);
            pairs[filled++] = opcode ? KINDS.indexOf("OP") : KINDS.indexOf(words[i]);
            pairs[filled++] = opcode ? OPCODES.indexOf(words[i]) : Integer.parseInt(words[++i]);
        }
        return java.util.Arrays.copyOf(pairs, filled);
    }

    static int kind(String name) {
        return KINDS.indexOf(name);
    }

    static int opcode(String name) {
        return OPCODES.indexOf(name);
    }
}
