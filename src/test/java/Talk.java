/** Talks with one object by texts, and counts the answers that are not due. */
final class Talk {
    static final int NONE = -1;

    static int wrong = 0;
    static int checks = 0;
    /** The words of the document that the next answers are asked for. */
    private static String words = "";

    final Counted x = new Counted();

    /** Begins the test of one sentence of the document: what is wrong then is told with its words. */
    static void sentence(String wordsOfIt) {
        words = wordsOfIt + "\n    ";
    }

    static void due(String call, long got, long want) {
        checks++;
        if (got != want) {
            wrong++;
            System.out.println(words + call + " answered " + got + ", due is " + want);
        }
    }

    static void due(String call, String got, String want) {
        checks++;
        if (!got.equals(want)) {
            wrong++;
            System.out.println(words + call + " wrote " + got + ", due is " + want);
        }
    }

    /** An object that was told a program and a goal, both without a FAULT. */
    static Talk told(String program, String goal) {
        Talk t = new Talk();
        t.program(program);
        due("fault of " + program, t.x.fault(), NONE);
        t.goal(goal);
        due("fault of " + goal, t.x.fault(), NONE);
        return t;
    }

    /** Puts a text on the tape, in place of what is there. */
    Talk tape(String text) {
        x.end(0);
        for (int k = 0; k < text.length(); k += 20) {
            int[] w = new int[5];
            for (int b = 0; b < 20; b++) {
                w[b / 4] = w[b / 4] << 8 | (k + b < text.length() ? text.charAt(k + b) : 0);
            }
            x.feed(w[0], w[1], w[2], w[3], w[4]);
        }
        due("end for " + text, x.end(text.length()), text.length());
        return this;
    }

    int program(String text) {
        return tape(text).x.program();
    }

    int goal(String text) {
        return tape(text).x.goal();
    }

    int bind(String text) {
        return tape(text).x.bind();
    }

    int expression(int i, String text) {
        return tape(text).x.expression(i);
    }

    /** What was written latest. */
    String written() {
        StringBuilder out = new StringBuilder();
        for (int sign = x.octet(0); sign != NONE; sign = x.octet(out.length())) {
            out.append((char) sign);
        }
        return out.toString();
    }

    String text(int what) {
        return read("text(" + what + ")", x.text(what));
    }

    String write(int i) {
        return read("write(" + i + ")", x.write(i));
    }

    String result(int which) {
        return read("result(" + which + ")", x.result(which));
    }

    /** What a call wrote: as many bytes as it answered. */
    private String read(String call, int length) {
        String text = written();
        due(call + " and its bytes", length, text.length());
        return text;
    }

    /** How a run answers to 0 .. 3: how it ends, STEPS, SIZE, the greatest one. */
    void dueRun(int which, int ended, int steps, int size, int greatest) {
        due("run(" + which + ", 0)", x.run(which, 0), ended);
        due("run(" + which + ", 1)", x.run(which, 1), steps);
        due("run(" + which + ", 2)", x.run(which, 2), size);
        due("run(" + which + ", 3)", x.run(which, 3), greatest);
    }

    void dueFault(String call, int answer, int fault) {
        due(call, answer, NONE);
        due("fault() of " + call, x.fault(), fault);
    }

    /** A text many times, with a last one. */
    static String nested(String open, int times, String inner, String close) {
        return open.repeat(times) + inner + close.repeat(times);
    }

    static void finish(String test) {
        System.out.println(test + ": " + checks + " answers, " + wrong + " not as due");
        if (wrong > 0) {
            System.exit(1);
        }
    }
}
