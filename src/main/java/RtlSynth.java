public final class RtlSynth {
    public static final int OK = 0;
    public static final int ERR_SEALED = -1;
    public static final int ERR_KIND = -2;
    public static final int ERR_VALUE = -3;
    public static final int ERR_FULL = -4;
    public static final int ERR_SYNTAX = -5;
    public static final int ERR_REDEF = -6;
    public static final int ERR_UNDEF = -7;
    public static final int ERR_INCOMPLETE = -8;
    public static final int ERR_NOT_COMPILED = -9;
    public static final int ERR_MODE = -10;
    public static final int MODE_RTL = 0;
    public static final int MODE_GATES = 1;
    public static final int K_NUM = 1;
    public static final int K_IN = 2;
    public static final int K_REG = 3;
    public static final int K_WIRE = 4;
    public static final int K_OP = 5;
    public static final int K_SHL = 6;
    public static final int K_SHR = 7;
    public static final int K_BIT = 8;
    public static final int K_WIREDEF = 9;
    public static final int K_OUTDEF = 10;
    public static final int K_REGSET = 11;
    public static final int OP_NOT = 1;
    public static final int OP_NEG = 2;
    public static final int OP_ADD = 3;
    public static final int OP_SUB = 4;
    public static final int OP_AND = 5;
    public static final int OP_OR = 6;
    public static final int OP_XOR = 7;
    public static final int OP_EQ = 8;
    public static final int OP_LTU = 9;
    public static final int OP_LTS = 10;
    public static final int OP_MUX = 11;

    private static final int REGISTERS = 8;
    private static final int INPUTS = 4;
    private static final int WIRES = 8;
    private static final int OUTPUTS = 4;
    private static final int WIDTH = 8;
    private static final int BYTE = 255;
    private static final int SIGN = 128;
    private static final int MAX_CYCLES = 8;
    private static final int MIN_TOKENS = 8;
    private static final int MAX_TOKENS = 48;
    // One slot more than tokens: the place behind the last token has an index too.
    private static final int TOKEN_SLOTS = MAX_TOKENS + 1;
    private static final int TOKEN_BITS = TOKEN_SLOTS * WIDTH;

    // A literal is twice a node's number, plus 1 if it is inverted. Node 0 is never high.
    private static final int FALSE = 0;
    private static final int TRUE = 1;
    private static final int FIRST_INPUT = 1;
    private static final int FIRST_FLOP = FIRST_INPUT + INPUTS * WIDTH;
    private static final int FLOPS = REGISTERS * WIDTH;
    private static final int FIRST_GATE = FIRST_FLOP + FLOPS;
    // The dearest token is a sum: two xor-gates and a majority for each of its bits.
    private static final int GATES_PER_TOKEN = 80;
    private static final int NODES = FIRST_GATE + MAX_TOKENS * GATES_PER_TOKEN;

    private final int tokenLimit;
    private int tokenCount;
    private int need;
    private int openStatement;
    private boolean compiled;
    private int cycleCount;
    private final int[] kinds = new int[MAX_TOKENS];
    private final int[] values = new int[MAX_TOKENS];
    private final int[] registers = new int[REGISTERS];
    private final int[] inputs = new int[INPUTS];
    private final boolean[] wireDefined = new boolean[WIRES];
    private final boolean[] outputDefined = new boolean[OUTPUTS];
    private final int[] wireStatement = new int[WIRES];
    private final int[] outputStatement = new int[OUTPUTS];

    // Set by compile: where a token's operands start, where the text under it ends,
    // and an order in which every token comes after all that it reads.
    private final int[] firstOperand = new int[TOKEN_SLOTS];
    private final int[] secondOperand = new int[TOKEN_SLOTS];
    private final int[] thirdOperand = new int[TOKEN_SLOTS];
    private final int[] endOf = new int[TOKEN_SLOTS];
    private final int[] order = new int[TOKEN_SLOTS];

    // Working room of the interpreter: what each token is worth now.
    private final int[] results = new int[TOKEN_SLOTS];

    // The gate-level form, set by compile; levels is the working room of its clock.
    private int nodeCount;
    private final int[] gateLeft = new int[NODES];
    private final int[] gateRight = new int[NODES];
    private final int[] flopSource = new int[FLOPS];
    private final int[] tokenBits = new int[TOKEN_BITS];
    private final int[] levels = new int[NODES];

    public RtlSynth(int maxTokens) {
        tokenLimit = maxTokens < MIN_TOKENS ? MIN_TOKENS
                : maxTokens > MAX_TOKENS ? MAX_TOKENS : maxTokens;
    }

    public int token(int kind, int value) {
        int refusal = refusalOf(kind, value);
        if (refusal != OK) {
            return refusal;
        }
        int arity = arityOf(kind, value);
        if (isStatement(kind)) {
            openStatement = tokenCount;
            need = arity;
        } else {
            need = need - 1 + arity;
        }
        kinds[tokenCount] = kind;
        values[tokenCount] = value;
        tokenCount++;
        if (need == 0) {
            closeStatement();
        }
        return OK;
    }

    public int compile() {
        if (compiled) {
            return ERR_SEALED;
        }
        if (need > 0) {
            return ERR_INCOMPLETE;
        }
        linkOperands();
        orderTokens();
        buildGates();
        compiled = true;
        return OK;
    }

    public boolean setInput(int port, int value) {
        if (port < 0 || port >= INPUTS) {
            return false;
        }
        inputs[port] = value & BYTE;
        return true;
    }

    public boolean setRegister(int r, int value) {
        if (r < 0 || r >= REGISTERS) {
            return false;
        }
        registers[r] = value & BYTE;
        return true;
    }

    public int clock(int mode, int cycles) {
        if (!compiled) {
            return ERR_NOT_COMPILED;
        }
        if (mode != MODE_RTL && mode != MODE_GATES) {
            return ERR_MODE;
        }
        if (cycles < 1 || cycles > MAX_CYCLES) {
            return ERR_VALUE;
        }
        for (int i = 0; i < cycles; i++) {
            if (mode == MODE_RTL) {
                clockRtl();
            } else {
                clockGates();
            }
        }
        cycleCount += cycles;
        return OK;
    }

    public void reset() {
        for (int r = 0; r < REGISTERS; r++) {
            registers[r] = 0;
        }
        cycleCount = 0;
    }

    public int getRegister(int r) {
        return r < 0 || r >= REGISTERS ? -1 : registers[r];
    }

    public int getInput(int p) {
        return p < 0 || p >= INPUTS ? -1 : inputs[p];
    }

    public int getWire(int w) {
        if (w < 0 || w >= WIRES || !compiled) {
            return -1;
        }
        if (!wireDefined[w]) {
            return 0;
        }
        interpret();
        return results[wireStatement[w]];
    }

    public int getOutput(int o) {
        if (o < 0 || o >= OUTPUTS || !compiled) {
            return -1;
        }
        if (!outputDefined[o]) {
            return 0;
        }
        interpret();
        return results[outputStatement[o]];
    }

    public int getNext(int r) {
        if (r < 0 || r >= REGISTERS || !compiled) {
            return -1;
        }
        interpret();
        return nextOf(r);
    }

    public int getTokenCount() {
        return tokenCount;
    }

    public int getNeed() {
        return need;
    }

    public boolean isCompiled() {
        return compiled;
    }

    public int getCycles() {
        return cycleCount;
    }

    // ---- taking tokens ----

    private int refusalOf(int kind, int value) {
        if (compiled) {
            return ERR_SEALED;
        }
        if (kind < K_NUM || kind > K_REGSET) {
            return ERR_KIND;
        }
        if (value < lowestValue(kind) || value > highestValue(kind)) {
            return ERR_VALUE;
        }
        if (tokenCount >= tokenLimit) {
            return ERR_FULL;
        }
        if (isStatement(kind) != (need == 0)) {
            return ERR_SYNTAX;
        }
        if (kind == K_WIREDEF && wireDefined[value]) {
            return ERR_REDEF;
        }
        if (kind == K_OUTDEF && outputDefined[value]) {
            return ERR_REDEF;
        }
        if (kind == K_WIRE && !wireDefined[value]) {
            return ERR_UNDEF;
        }
        return OK;
    }

    private static boolean isStatement(int kind) {
        return kind >= K_WIREDEF;
    }

    private static int lowestValue(int kind) {
        return kind == K_OP ? OP_NOT : 0;
    }

    private static int highestValue(int kind) {
        switch (kind) {
            case K_NUM:
                return BYTE;
            case K_IN:
                return INPUTS - 1;
            case K_REG:
            case K_REGSET:
                return REGISTERS - 1;
            case K_WIRE:
            case K_WIREDEF:
                return WIRES - 1;
            case K_OP:
                return OP_MUX;
            case K_OUTDEF:
                return OUTPUTS - 1;
            default:
                return WIDTH - 1;
        }
    }

    // How many expressions follow the token, a statement's own ones included.
    private static int arityOf(int kind, int value) {
        switch (kind) {
            case K_NUM:
            case K_IN:
            case K_REG:
            case K_WIRE:
                return 0;
            case K_OP:
                return value <= OP_NEG ? 1 : value == OP_MUX ? 3 : 2;
            case K_REGSET:
                return 2;
            default:
                return 1;
        }
    }

    private void closeStatement() {
        int target = values[openStatement];
        if (kinds[openStatement] == K_WIREDEF) {
            wireDefined[target] = true;
            wireStatement[target] = openStatement;
        } else if (kinds[openStatement] == K_OUTDEF) {
            outputDefined[target] = true;
            outputStatement[target] = openStatement;
        }
    }

    // ---- compiling ----

    // From the back, so that the ends of a token's operands are known before its own.
    private void linkOperands() {
        for (int i = tokenCount - 1; i >= 0; i--) {
            int arity = arityOf(kinds[i], values[i]);
            int end = i + 1;
            if (arity >= 1) {
                firstOperand[i] = end;
                end = endOf[end];
            }
            if (arity >= 2) {
                secondOperand[i] = end;
                end = endOf[end];
            }
            if (arity >= 3) {
                thirdOperand[i] = end;
                end = endOf[end];
            }
            endOf[i] = end;
        }
    }

    // Statements forwards, because a wire is defined before it is read;
    // the tokens of each backwards, because operands stand behind their operator.
    private void orderTokens() {
        int start = 0;
        int end = endOf[0];
        for (int k = 0; k < tokenCount; k++) {
            if (k == end) {
                start = end;
                end = endOf[start];
            }
            order[k] = start + end - 1 - k;
        }
    }

    private void buildGates() {
        nodeCount = FIRST_GATE;
        for (int f = 0; f < FLOPS; f++) {
            flopSource[f] = 2 * (FIRST_FLOP + f);
        }
        for (int k = 0; k < tokenCount; k++) {
            int i = order[k];
            if (kinds[i] == K_OP) {
                buildOperator(i);
            } else if (kinds[i] == K_REGSET) {
                buildRegset(i);
            } else {
                routeBits(i);
            }
        }
    }

    private void buildOperator(int i) {
        switch (values[i]) {
            case OP_NEG:
                buildNegation(i);
                break;
            case OP_ADD:
                buildSum(i, FALSE);
                break;
            case OP_SUB:
                buildSum(i, TRUE);
                break;
            case OP_EQ:
                buildEqual(i);
                break;
            case OP_LTU:
                buildLess(i, FALSE);
                break;
            case OP_LTS:
                buildLess(i, TRUE);
                break;
            case OP_MUX:
                buildChoice(i);
                break;
            default:
                buildBitwise(i);
                break;
        }
    }

    private void buildBitwise(int i) {
        int left = firstOperand[i] * WIDTH;
        int right = secondOperand[i] * WIDTH;
        for (int bit = 0; bit < WIDTH; bit++) {
            int a = tokenBits[left + bit];
            int b = tokenBits[right + bit];
            int out;
            switch (values[i]) {
                case OP_AND:
                    out = andGate(a, b);
                    break;
                case OP_OR:
                    out = orGate(a, b);
                    break;
                case OP_XOR:
                    out = xorGate(a, b);
                    break;
                default:
                    out = a ^ 1;
                    break;
            }
            tokenBits[i * WIDTH + bit] = out;
        }
    }

    private void buildNegation(int i) {
        int operand = firstOperand[i] * WIDTH;
        int carry = TRUE;
        for (int bit = 0; bit < WIDTH; bit++) {
            int inverted = tokenBits[operand + bit] ^ 1;
            tokenBits[i * WIDTH + bit] = xorGate(inverted, carry);
            carry = andGate(inverted, carry);
        }
    }

    // a - b is a + NOT b + 1, so one literal both inverts b and is the first carry.
    private void buildSum(int i, int subtract) {
        int left = firstOperand[i] * WIDTH;
        int right = secondOperand[i] * WIDTH;
        int carry = subtract;
        for (int bit = 0; bit < WIDTH; bit++) {
            int a = tokenBits[left + bit];
            int b = tokenBits[right + bit] ^ subtract;
            int half = xorGate(a, b);
            tokenBits[i * WIDTH + bit] = xorGate(half, carry);
            carry = majorityGate(a, b, carry);
        }
    }

    private void buildEqual(int i) {
        int left = firstOperand[i] * WIDTH;
        int right = secondOperand[i] * WIDTH;
        int equal = TRUE;
        for (int bit = 0; bit < WIDTH; bit++) {
            int differ = xorGate(tokenBits[left + bit], tokenBits[right + bit]);
            equal = andGate(equal, differ ^ 1);
        }
        setTruth(i, equal);
    }

    // The borrow of a - b. Inverting both sign bits turns the signed order into the unsigned one.
    private void buildLess(int i, int signed) {
        int left = firstOperand[i] * WIDTH;
        int right = secondOperand[i] * WIDTH;
        int borrow = FALSE;
        for (int bit = 0; bit < WIDTH; bit++) {
            int flip = bit == WIDTH - 1 ? signed : 0;
            int a = tokenBits[left + bit] ^ flip;
            int b = tokenBits[right + bit] ^ flip;
            borrow = majorityGate(a ^ 1, b, borrow);
        }
        setTruth(i, borrow);
    }

    private void buildChoice(int i) {
        int selector = anyBit(firstOperand[i]);
        int then = secondOperand[i] * WIDTH;
        int otherwise = thirdOperand[i] * WIDTH;
        for (int bit = 0; bit < WIDTH; bit++) {
            tokenBits[i * WIDTH + bit] =
                    muxGate(selector, tokenBits[then + bit], tokenBits[otherwise + bit]);
        }
    }

    // A later statement stands before what the earlier ones gave, so the last true guard wins.
    private void buildRegset(int i) {
        int guard = anyBit(firstOperand[i]);
        int value = secondOperand[i] * WIDTH;
        int flop = values[i] * WIDTH;
        for (int bit = 0; bit < WIDTH; bit++) {
            flopSource[flop + bit] =
                    muxGate(guard, tokenBits[value + bit], flopSource[flop + bit]);
        }
    }

    private void routeBits(int i) {
        for (int bit = 0; bit < WIDTH; bit++) {
            tokenBits[i * WIDTH + bit] = routedBit(i, bit);
        }
    }

    // Tokens that need no gate: their bits are constants or bits that are there already.
    private int routedBit(int i, int bit) {
        int value = values[i];
        int operand = firstOperand[i] * WIDTH;
        switch (kinds[i]) {
            case K_NUM:
                return (value >> bit) & 1;
            case K_IN:
                return 2 * (FIRST_INPUT + value * WIDTH + bit);
            case K_REG:
                return 2 * (FIRST_FLOP + value * WIDTH + bit);
            case K_WIRE:
                return tokenBits[wireStatement[value] * WIDTH + bit];
            case K_SHL:
                return bit >= value ? tokenBits[operand + bit - value] : FALSE;
            case K_SHR:
                return bit + value < WIDTH ? tokenBits[operand + bit + value] : FALSE;
            case K_BIT:
                return bit == 0 ? tokenBits[operand + value] : FALSE;
            default:
                return tokenBits[operand + bit];
        }
    }

    private void setTruth(int i, int literal) {
        tokenBits[i * WIDTH] = literal;
        for (int bit = 1; bit < WIDTH; bit++) {
            tokenBits[i * WIDTH + bit] = FALSE;
        }
    }

    private int anyBit(int operand) {
        int none = TRUE;
        for (int bit = 0; bit < WIDTH; bit++) {
            none = andGate(none, tokenBits[operand * WIDTH + bit] ^ 1);
        }
        return none ^ 1;
    }

    private int orGate(int a, int b) {
        int neither = andGate(a ^ 1, b ^ 1);
        return neither ^ 1;
    }

    private int xorGate(int a, int b) {
        int both = andGate(a, b);
        int neither = andGate(a ^ 1, b ^ 1);
        return andGate(both ^ 1, neither ^ 1);
    }

    private int muxGate(int selector, int then, int otherwise) {
        int taken = andGate(selector, then);
        int left = andGate(selector ^ 1, otherwise);
        int neither = andGate(taken ^ 1, left ^ 1);
        return neither ^ 1;
    }

    private int majorityGate(int a, int b, int c) {
        int both = andGate(a, b);
        int neither = andGate(a ^ 1, b ^ 1);
        int byThird = andGate(neither ^ 1, c);
        int no = andGate(both ^ 1, byThird ^ 1);
        return no ^ 1;
    }

    private int andGate(int a, int b) {
        // No program is so large (GATES_PER_TOKEN); the look keeps the index in its array.
        if (nodeCount >= NODES) {
            return FALSE;
        }
        int node = nodeCount;
        gateLeft[node] = a;
        gateRight[node] = b;
        nodeCount++;
        return 2 * node;
    }

    // ---- interpreting ----

    private void clockRtl() {
        interpret();
        // All results are known before the first register changes.
        for (int r = 0; r < REGISTERS; r++) {
            registers[r] = nextOf(r);
        }
    }

    private void interpret() {
        for (int k = 0; k < tokenCount; k++) {
            int i = order[k];
            results[i] = meaningOf(i);
        }
    }

    private int nextOf(int r) {
        int next = registers[r];
        for (int i = 0; i < tokenCount; i++) {
            if (kinds[i] == K_REGSET && values[i] == r && results[firstOperand[i]] != 0) {
                next = results[secondOperand[i]];
            }
        }
        return next;
    }

    private int meaningOf(int i) {
        int value = values[i];
        int a = results[firstOperand[i]];
        switch (kinds[i]) {
            case K_NUM:
                return value;
            case K_IN:
                return inputs[value];
            case K_REG:
                return registers[value];
            case K_WIRE:
                return results[wireStatement[value]];
            case K_OP:
                return operate(value, a, results[secondOperand[i]], results[thirdOperand[i]]);
            case K_SHL:
                return (a << value) & BYTE;
            case K_SHR:
                return a >> value;
            case K_BIT:
                return (a >> value) & 1;
            default:
                return a;
        }
    }

    private static int operate(int op, int a, int b, int c) {
        switch (op) {
            case OP_NOT:
                return BYTE - a;
            case OP_NEG:
                return -a & BYTE;
            case OP_ADD:
                return (a + b) & BYTE;
            case OP_SUB:
                return (a - b) & BYTE;
            case OP_AND:
                return a & b;
            case OP_OR:
                return a | b;
            case OP_XOR:
                return a ^ b;
            case OP_EQ:
                return a == b ? 1 : 0;
            case OP_LTU:
                return a < b ? 1 : 0;
            case OP_LTS:
                return (a ^ SIGN) < (b ^ SIGN) ? 1 : 0;
            default:
                return a != 0 ? b : c;
        }
    }

    // ---- clocking the gates ----

    private void clockGates() {
        for (int p = 0; p < INPUTS; p++) {
            spreadBits(inputs[p], FIRST_INPUT + p * WIDTH);
        }
        for (int r = 0; r < REGISTERS; r++) {
            spreadBits(registers[r], FIRST_FLOP + r * WIDTH);
        }
        settleGates();
        for (int r = 0; r < REGISTERS; r++) {
            registers[r] = gatherFlops(r * WIDTH);
        }
    }

    private void spreadBits(int value, int firstNode) {
        for (int bit = 0; bit < WIDTH; bit++) {
            levels[firstNode + bit] = (value >> bit) & 1;
        }
    }

    // A gate reads only nodes made before it, so one pass settles all.
    private void settleGates() {
        for (int node = FIRST_GATE; node < nodeCount; node++) {
            int left = gateLeft[node];
            int right = gateRight[node];
            levels[node] = (levels[left >> 1] ^ left) & (levels[right >> 1] ^ right) & 1;
        }
    }

    private int gatherFlops(int firstFlop) {
        int value = 0;
        for (int bit = 0; bit < WIDTH; bit++) {
            int source = flopSource[firstFlop + bit];
            int level = (levels[source >> 1] ^ source) & 1;
            value |= level << bit;
        }
        return value;
    }
}
