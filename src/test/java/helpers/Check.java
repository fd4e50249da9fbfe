/** Counts the wrong answers of one test, prints each, and ends the test with 1 if there was one. */
final class Check {
    private int wrong = 0;
    private String sentence = "";

    /** The sentence of the document that the answers from here on are due by. */
    void about(String words) {
        sentence = "\"" + words + "\"";
    }

    /** The same, where a sentence has several cases. */
    void about(String words, String remark) {
        sentence = "\"" + words + "\", " + remark;
    }

    private void report(String line) {
        wrong++;
        if (!sentence.isEmpty()) System.out.println(sentence);
        System.out.println(line);
    }

    void due(String call, long got, long want) {
        if (got != want) {
            report(call + " answered " + got + ", due is " + want);
        }
    }

    void due(String call, boolean got, boolean want) {
        due(call, got ? 1 : 0, want ? 1 : 0);
    }

    void due(String call, String got, String want) {
        if (!got.equals(want)) {
            report(call + " left\n  " + got + "\ndue is\n  " + want);
        }
    }

    /** Feeds (kind, value) pairs, every one of which must be accepted. */
    void feed(RtlSynth x, int... pairs) {
        for (int i = 0; i < pairs.length; i += 2) {
            due("token(" + pairs[i] + ", " + pairs[i + 1] + ") at " + i / 2,
                    x.token(pairs[i], pairs[i + 1]), RtlSynth.OK);
        }
    }

    /** Feeds a program in the words of Design. */
    void feed(RtlSynth x, String program) {
        feed(x, Design.pairs(program));
    }

    /** A new object with a program, not compiled. */
    RtlSynth fed(int maxTokens, String program) {
        RtlSynth x = new RtlSynth(maxTokens);
        feed(x, program);
        return x;
    }

    /** A new object with a compiled program. */
    RtlSynth compiled(int maxTokens, String program) {
        RtlSynth x = fed(maxTokens, program);
        due("compile() of " + program, x.compile(), RtlSynth.OK);
        return x;
    }

    /** A token that must be refused, with every getter answering as before. */
    void refused(RtlSynth x, int kind, int value, int answer) {
        String before = seen(x);
        String call = "token(" + kind + ", " + value + ")";
        due(call, x.token(kind, value), answer);
        due("refused " + call, seen(x), before);
    }

    int wrong() {
        return wrong;
    }

    void finish() {
        if (wrong != 0) {
            System.out.println(wrong + " wrong");
            System.exit(1);
        }
    }

    /** Every answer that a getter can give, so that two moments can be compared. */
    static String seen(RtlSynth x) {
        StringBuilder text = new StringBuilder();
        for (int i = -1; i <= 8; i++) {
            text.append(x.getRegister(i)).append('/').append(x.getInput(i)).append('/');
            text.append(x.getWire(i)).append('/').append(x.getOutput(i)).append('/');
            text.append(x.getNext(i)).append(' ');
        }
        text.append("tokens ").append(x.getTokenCount()).append(" need ").append(x.getNeed());
        text.append(" compiled ").append(x.isCompiled()).append(" cycles ").append(x.getCycles());
        return text.toString();
    }
}
