/** Boundary cases of Meaning, one method for each line of it; the due values are written out. */
public final class BoundaryMeaningTest {
    private static final Check check = new Check();

    public static void main(String[] args) {
        number();
        input();
        register();
        wire();
        not();
        neg();
        shiftLeft();
        shiftRight();
        bit();
        add();
        sub();
        bitwise();
        equal();
        lessUnsigned();
        lessSigned();
        choice();
        operandOrder();
        deepest();
        check.finish();
    }

    /** The operands as numbers, registers, inputs and wires: each comes another way into the gates. */
    private static void means(String operator, int due, int... operands) {
        String numbers = operator;
        String registers = operator;
        String inputs = operator;
        String wires = operator;
        String before = "";
        for (int i = 0; i < operands.length; i++) {
            numbers += " NUM " + operands[i];
            registers += " REG " + (7 - i);
            inputs += " IN " + i;
            wires += " WIRE " + (7 - i);
            before += "WIREDEF " + (7 - i) + " IN " + i + " ";
        }
        answers(numbers, "", due, operands);
        answers(registers, "", due, operands);
        answers(inputs, "", due, operands);
        answers(wires, before, due, operands);
    }

    private static void answers(String expression, String before, int due, int... operands) {
        RtlSynth x = check.compiled(40, before + "WIREDEF 0 " + expression + " OUTDEF 3 " + expression
                + " REGSET 0 NUM 1 " + expression + " REGSET 1 NUM 1 WIRE 0");
        String name = expression + " of";
        for (int i = 0; i < operands.length; i++) {
            x.setRegister(7 - i, operands[i]);
            x.setInput(i, operands[i]);
            name += " " + operands[i];
        }
        check.due(name + ": getWire(0)", x.getWire(0), due);
        check.due(name + ": getOutput(3)", x.getOutput(3), due);
        check.due(name + ": getNext(0)", x.getNext(0), due);
        for (int mode = 0; mode <= 1; mode++) {
            x.setRegister(0, 255 - due);
            x.setRegister(1, 255 - due);
            x.clock(mode, 1);
            check.due(name + ": getRegister(0) in mode " + mode, x.getRegister(0), due);
            check.due(name + ": getRegister(1) in mode " + mode, x.getRegister(1), due);
        }
    }

    private static void number() {
        check.about("NUM(v) = v");
        for (int v : new int[] {0, 1, 127, 128, 254, 255}) answers("NUM " + v, "", v);
    }

    private static void input() {
        check.about("IN(p) = input p");
        for (int p = 0; p < 4; p++) {
            int[] operands = {11, 22, 33, 255};
            answers("IN " + p, "", operands[p], operands);
        }
    }

    private static void register() {
        check.about("REG(r) = register r");
        for (int r = 0; r < 8; r++) {
            RtlSynth x = check.compiled(20, "WIREDEF 0 REG " + r + " REGSET " + (r ^ 1) + " NUM 1 REG " + r);
            for (int i = 0; i < 8; i++) x.setRegister(i, 255 - i);
            check.due("getWire(0) of REG " + r, x.getWire(0), 255 - r);
            x.clock(1, 1);
            check.due("getRegister(" + (r ^ 1) + ") of REG " + r, x.getRegister(r ^ 1), 255 - r);
        }
    }

    private static void wire() {
        check.about("WIRE(w) = value of the expression of w's statement;");
        RtlSynth x = check.fed(48, "WIREDEF 7 NOT IN 0");
        for (int w = 6; w >= 0; w--) check.feed(x, "WIREDEF " + w + " ADD WIRE " + (w + 1) + " NUM 1");
        check.feed(x, "OUTDEF 0 XOR WIRE 7 WIRE 0 REGSET 0 WIRE 3 WIRE 0");
        x.compile();
        x.setInput(0, 3);
        for (int w = 0; w < 8; w++) check.due("getWire(" + w + ")", x.getWire(w), (252 + 7 - w) % 256);
        check.due("getOutput(0)", x.getOutput(0), 252 ^ 3);
        check.due("guard WIRE 3 is 0: getNext(0)", x.getNext(0), 0);
        x.setInput(0, 2);
        x.clock(1, 1);
        check.due("getRegister(0)", x.getRegister(0), 4);
    }

    private static void not() {
        check.about("NOT a = 255 - a");
        int[][] rows = {{0, 255}, {255, 0}, {1, 254}, {254, 1}, {127, 128}, {128, 127}};
        for (int[] row : rows) means("NOT", row[1], row[0]);
    }

    private static void neg() {
        check.about("NEG a = (256 - a) % 256;");
        int[][] rows = {{0, 0}, {1, 255}, {255, 1}, {127, 129}, {128, 128}, {129, 127}, {2, 254}};
        for (int[] row : rows) means("NEG", row[1], row[0]);
    }

    private static void shiftLeft() {
        check.about("SHL(k) a = (a * 2^k) % 256");
        int[][] rows = {{0, 0, 0}, {0, 255, 255}, {0, 128, 128}, {1, 128, 0}, {1, 127, 254}, {1, 255, 254},
            {4, 16, 0}, {4, 15, 240}, {7, 1, 128}, {7, 2, 0}, {7, 254, 0}, {7, 255, 128}};
        for (int[] row : rows) means("SHL " + row[0], row[2], row[1]);
    }

    private static void shiftRight() {
        check.about("SHR(k) a = a / 2^k rounded down");
        int[][] rows = {{0, 0, 0}, {0, 255, 255}, {1, 1, 0}, {1, 255, 127}, {1, 128, 64}, {4, 15, 0}, {4, 16, 1},
            {7, 127, 0}, {7, 128, 1}, {7, 255, 1}};
        for (int[] row : rows) means("SHR " + row[0], row[2], row[1]);
    }

    private static void bit() {
        check.about("BIT(k) a = (a / 2^k) % 2;");
        for (int k = 0; k < 8; k++) {
            means("BIT " + k, 1, 1 << k);
            means("BIT " + k, 0, 255 - (1 << k));
            means("BIT " + k, 0, 0);
            means("BIT " + k, 1, 255);
        }
    }

    private static void add() {
        check.about("ADD = (a + b) % 256");
        int[][] rows = {{0, 0, 0}, {0, 255, 255}, {255, 0, 255}, {255, 1, 0}, {1, 255, 0}, {255, 255, 254},
            {128, 128, 0}, {127, 1, 128}, {127, 128, 255}, {254, 1, 255}};
        for (int[] row : rows) means("ADD", row[2], row[0], row[1]);
    }

    private static void sub() {
        check.about("SUB = (a - b + 256) % 256");
        int[][] rows = {{0, 0, 0}, {0, 1, 255}, {0, 255, 1}, {255, 255, 0}, {255, 0, 255}, {1, 0, 1}, {128, 1, 127},
            {0, 128, 128}, {127, 128, 255}, {254, 255, 255}};
        for (int[] row : rows) means("SUB", row[2], row[0], row[1]);
    }

    private static void bitwise() {
        check.about("AND, OR, XOR are bitwise;");
        int[][] pairs = {{0, 0}, {0, 255}, {255, 0}, {255, 255}, {170, 85}, {170, 170}, {240, 60}, {128, 1}};
        int[] and = {0, 0, 0, 255, 0, 170, 48, 0};
        int[] or = {0, 255, 255, 255, 255, 170, 252, 129};
        int[] xor = {0, 255, 255, 0, 255, 0, 204, 129};
        for (int i = 0; i < pairs.length; i++) {
            means("AND", and[i], pairs[i][0], pairs[i][1]);
            means("OR", or[i], pairs[i][0], pairs[i][1]);
            means("XOR", xor[i], pairs[i][0], pairs[i][1]);
        }
    }

    private static void equal() {
        check.about("EQ = 1 if a == b else 0");
        int[][] rows = {{0, 0, 1}, {255, 255, 1}, {128, 128, 1}, {0, 255, 0}, {255, 0, 0}, {0, 1, 0}, {0, 128, 0},
            {128, 0, 0}, {127, 128, 0}, {254, 255, 0}};
        for (int[] row : rows) means("EQ", row[2], row[0], row[1]);
        for (int k = 0; k < 8; k++) means("EQ", 0, 90, 90 ^ 1 << k);
    }

    private static void lessUnsigned() {
        check.about("LTU = 1 if a < b else 0;");
        int[][] rows = {{0, 0, 0}, {255, 255, 0}, {0, 255, 1}, {255, 0, 0}, {0, 1, 1}, {1, 0, 0}, {127, 128, 1},
            {128, 127, 0}, {128, 128, 0}, {254, 255, 1}, {255, 254, 0}};
        for (int[] row : rows) means("LTU", row[2], row[0], row[1]);
    }

    private static void lessSigned() {
        check.about("LTS = 1 if s(a) < s(b) else 0, where s(x) = x - 256 if x >= 128, else x;");
        int[][] rows = {{0, 0, 0}, {255, 255, 0}, {128, 128, 0}, {127, 127, 0}, {128, 127, 1}, {127, 128, 0},
            {255, 0, 1}, {0, 255, 0}, {128, 255, 1}, {255, 128, 0}, {0, 127, 1}, {127, 0, 0}, {128, 129, 1},
            {129, 128, 0}, {128, 0, 1}, {0, 128, 0}, {254, 255, 1}, {255, 1, 1}, {126, 127, 1}};
        for (int[] row : rows) means("LTS", row[2], row[0], row[1]);
    }

    private static void choice() {
        check.about("MUX a b c = b if a != 0 else c.");
        means("MUX", 22, 0, 11, 22);
        for (int a : new int[] {1, 2, 4, 8, 16, 32, 64, 127, 128, 254, 255}) means("MUX", 11, a, 11, 22);
        means("MUX", 0, 1, 0, 255);
        means("MUX", 255, 0, 0, 255);
        means("MUX", 255, 255, 255, 0);
    }

    private static void operandOrder() {
        check.about("where a, b and c are the operand values in order");
        answers("SUB SUB NUM 100 NUM 30 NUM 5", "", 65);
        answers("SUB NUM 100 SUB NUM 30 NUM 5", "", 75);
        answers("SUB SHL 1 NUM 100 MUX NUM 0 NUM 1 NUM 2", "", 198);
        answers("MUX SUB NUM 5 NUM 5 NUM 1 MUX NUM 1 LTU NUM 3 NUM 4 NUM 9", "", 1);
        RtlSynth x = check.compiled(20, "REGSET 0 SUB NUM 9 NUM 9 NUM 7 REGSET 1 SUB NUM 9 NUM 8 SUB NUM 7 NUM 8");
        check.due("guard first: getNext(0)", x.getNext(0), 0);
        check.due("then value: getNext(1)", x.getNext(1), 255);
    }

    private static void deepest() {
        check.about("where a, b and c are the operand values in order", "the deepest expressions in 48 tokens");
        RtlSynth chain = check.compiled(48, "REGSET 0 NUM 1" + " NEG".repeat(45) + " REG 0");
        chain.setRegister(0, 1);
        for (int mode = 0; mode <= 1; mode++) {
            chain.clock(mode, 1);
            check.due("45 NEG in mode " + mode, chain.getRegister(0), mode == 0 ? 255 : 1);
        }
        RtlSynth left = check.compiled(48, "REGSET 0 NUM 1" + " SUB".repeat(22) + " REG 0" + " NUM 1".repeat(22));
        String steps = "";
        for (int i = 0; i < 22; i++) steps += " SUB NUM 1";
        RtlSynth right = check.compiled(48, "REGSET 0 NUM 1" + steps + " REG 0");
        for (int mode = 0; mode <= 1; mode++) {
            left.setRegister(0, 0);
            right.setRegister(0, 77);
            left.clock(mode, 1);
            right.clock(mode, 1);
            check.due("22 SUB to the left in mode " + mode, left.getRegister(0), 234);
            check.due("22 SUB to the right in mode " + mode, right.getRegister(0), 77);
        }
    }
}
