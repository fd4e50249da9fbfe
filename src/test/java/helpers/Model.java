import java.util.ArrayList;
import java.util.HashMap;
import java.util.List;
import java.util.Map;

/**
 * The document's words a second time, with lists and recursion and without gates.
 * It shares no constant and no code with RtlSynth, so that a slip there isn't repeated here.
 */
final class Model {
    private static final int[] HIGHEST = {-1, 255, 3, 7, 7, 11, 7, 7, 7, 7, 3, 7};

    private final int limit;
    private final List<int[]> tokens = new ArrayList<>();
    private final Map<Integer, Integer> wires = new HashMap<>();
    private final Map<Integer, Integer> outputs = new HashMap<>();
    private final int[] registers = new int[8];
    private final int[] inputs = new int[4];
    private int need = 0;
    private int open = 0;
    private boolean compiled = false;
    private int cycles = 0;
    private int cursor = 0;

    Model(int maxTokens) {
        limit = Math.min(48, Math.max(8, maxTokens));
    }

    int token(int kind, int value) {
        if (compiled) return -1;
        if (kind < 1 || kind > 11) return -2;
        if (value < (kind == 5 ? 1 : 0) || value > HIGHEST[kind]) return -3;
        if (tokens.size() == limit) return -4;
        if (need == 0 && kind <= 8 || need > 0 && kind >= 9) return -5;
        if (kind == 9 && wires.containsKey(value)) return -6;
        if (kind == 10 && outputs.containsKey(value)) return -6;
        if (kind == 4 && !wires.containsKey(value)) return -7;
        tokens.add(new int[] {kind, value});
        if (kind >= 9) {
            open = tokens.size() - 1;
            need = kind == 11 ? 2 : 1;
            return 0;
        }
        need = need - 1 + arity(kind, value);
        if (need == 0 && tokens.get(open)[0] == 9) wires.put(tokens.get(open)[1], open + 1);
        if (need == 0 && tokens.get(open)[0] == 10) outputs.put(tokens.get(open)[1], open + 1);
        return 0;
    }

    static int arity(int kind, int value) {
        if (kind <= 4) return 0;
        if (kind >= 6) return 1;
        if (value <= 2) return 1;
        return value == 11 ? 3 : 2;
    }

    int compile() {
        if (compiled) return -1;
        if (need > 0) return -8;
        compiled = true;
        return 0;
    }

    boolean setInput(int port, int value) {
        if (port < 0 || port > 3) return false;
        inputs[port] = Math.floorMod(value, 256);
        return true;
    }

    boolean setRegister(int r, int value) {
        if (r < 0 || r > 7) return false;
        registers[r] = Math.floorMod(value, 256);
        return true;
    }

    int clock(int mode, int count) {
        if (!compiled) return -9;
        if (mode < 0 || mode > 1) return -10;
        if (count < 1 || count > 8) return -3;
        for (int i = 0; i < count; i++) {
            int[] next = new int[8];
            for (int r = 0; r < 8; r++) next[r] = getNext(r);
            System.arraycopy(next, 0, registers, 0, 8);
            cycles++;
        }
        return 0;
    }

    void reset() {
        for (int r = 0; r < 8; r++) registers[r] = 0;
        cycles = 0;
    }

    int getRegister(int r) {
        return r < 0 || r > 7 ? -1 : registers[r];
    }

    int getInput(int p) {
        return p < 0 || p > 3 ? -1 : inputs[p];
    }

    int getWire(int w) {
        if (w < 0 || w > 7 || !compiled) return -1;
        return wires.containsKey(w) ? valueAt(wires.get(w)) : 0;
    }

    int getOutput(int o) {
        if (o < 0 || o > 3 || !compiled) return -1;
        return outputs.containsKey(o) ? valueAt(outputs.get(o)) : 0;
    }

    int getNext(int r) {
        if (r < 0 || r > 7 || !compiled) return -1;
        int next = registers[r];
        for (int i = 0; i < tokens.size(); i++) {
            if (tokens.get(i)[0] != 11 || tokens.get(i)[1] != r) continue;
            int guard = valueAt(i + 1);
            int value = valueAt(cursor);
            if (guard != 0) next = value;
        }
        return next;
    }

    int getTokenCount() {
        return tokens.size();
    }

    int getNeed() {
        return need;
    }

    boolean isCompiled() {
        return compiled;
    }

    int getCycles() {
        return cycles;
    }

    int room() {
        return limit - tokens.size();
    }

    /** The value of the expression at a place; the cursor then stands behind the expression. */
    private int valueAt(int place) {
        int kind = tokens.get(place)[0];
        int v = tokens.get(place)[1];
        int[] operand = new int[3];
        cursor = place + 1;
        for (int i = 0; i < arity(kind, v); i++) operand[i] = valueAt(cursor);
        int after = cursor;
        int value = meaning(kind, v, operand[0], operand[1], operand[2]);
        cursor = after;
        return value;
    }

    private int meaning(int kind, int v, int a, int b, int c) {
        switch (kind) {
            case 1: return v;
            case 2: return inputs[v];
            case 3: return registers[v];
            case 4: return valueAt(wires.get(v));
            case 6: return a * power(v) % 256;
            case 7: return a / power(v);
            case 8: return a / power(v) % 2;
            default: return operation(v, a, b, c);
        }
    }

    static int operation(int op, int a, int b, int c) {
        switch (op) {
            case 1: return 255 - a;
            case 2: return (256 - a) % 256;
            case 3: return (a + b) % 256;
            case 4: return (a - b + 256) % 256;
            case 5: return a & b;
            case 6: return a | b;
            case 7: return a ^ b;
            case 8: return a == b ? 1 : 0;
            case 9: return a < b ? 1 : 0;
            case 10: return signed(a) < signed(b) ? 1 : 0;
            default: return a != 0 ? b : c;
        }
    }

    private static int signed(int x) {
        return x >= 128 ? x - 256 : x;
    }

    static int power(int k) {
        int power = 1;
        for (int i = 0; i < k; i++) power *= 2;
        return power;
    }
}
