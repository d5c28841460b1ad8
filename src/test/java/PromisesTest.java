/** Promises 1 to 29: a test for each sentence that names an edge or a refused call. */
public final class PromisesTest {
    private static final int NONE = -1;
    private static final int MIN = Integer.MIN_VALUE;
    private static final int MAX = Integer.MAX_VALUE;
    private static final String ADD = "a(Z,x)=x;a(S(x),y)=S(a(x,y));";

    public static void main(String[] args) {
        aNewObject();
        twentyBytes();
        highestFirst();
        moreThan800();
        moreThan800Behind();
        firstBytesAlone();
        endRefused();
        programWell();
        programFault();
        goalWell();
        goalFault();
        bindWell();
        bindEmpty();
        bindTwice();
        bindFault();
        boundNoMore();
        expressionWell();
        expressionFault();
        noSuchExpression();
        faultOfLatest();
        isEach();
        clauseEach();
        runEach();
        runNone();
        resultEach();
        runOfEach();
        relationNone();
        commonEach();
        commonOfEach();
        stepDone();
        stepStuck();
        stepLarge();
        stepNone();
        writeEach();
        ofEach();
        Talk.finish("PromisesTest");
    }

    /** All that can be asked without a RUN, in one text; what was written latest comes first. */
    private static String all(Talk t) {
        StringBuilder out = new StringBuilder(t.written());
        for (int what = 0; what <= 11; what++) {
            out.append(' ').append(t.x.is(what)).append(' ').append(t.x.tree(what)).append(' ').append(t.x.clause(1, what));
        }
        out.append(' ').append(t.x.deepest());
        for (int k = 0; k <= 4; k++) {
            out.append(' ').append(t.x.node(k, 0)).append(' ').append(t.x.ranked(k, 0)).append(' ').append(t.x.clause(k, 0));
        }
        for (int i = 0; i <= 3; i++) {
            out.append(' ').append(t.x.write(i)).append(' ').append(t.x.octet(0)).append(' ').append(t.x.octet(2));
        }
        for (int what = 0; what <= 3; what++) {
            out.append(' ').append(t.x.text(what)).append(' ').append(t.x.octet(2)).append(' ').append(t.x.octet(4));
        }
        return out.append(' ').append(t.x.text(3)).toString();
    }

    /** An object with something of each kind, all() asked once. */
    private static Talk full() {
        Talk t = Talk.told(ADD, "a(a(S(S(Z)),x),Z)");
        t.bind("x=S(Z);y=A");
        t.expression(0, "a(S(x),y)");
        t.expression(1, "C(x,y)");
        t.expression(2, "a(a(x,y),z)");
        t.x.drive();
        t.x.run(0, 0);
        all(t);
        return t;
    }

    /** Whether two have the same things to tell, the tape as well. */
    private static void dueSame(String call, Talk t, String before) {
        Talk.due("all but the fault, behind " + call, all(t), before);
    }

    private static void aNewObject() {
        Talk.sentence("1: No CLAUSES, the GOAL is !.");
        Talk t = new Talk();
        Talk.due("octet(0)", t.x.octet(0), NONE);
        int[] is = {0, 0, 0, 1, 0, 0, 0, 0};
        for (int what = 0; what < is.length; what++) {
            Talk.due("is(" + what + ")", t.x.is(what), is[what]);
        }
        Talk.due("clause(0, 0)", t.x.clause(0, 0), NONE);
        Talk.due("text(2)", t.x.text(2), 0);
        Talk.due("octet(0)", t.x.octet(0), NONE);
        Talk.due("text(3)", t.text(3), "!");
        t.dueRun(0, 1, 0, 1, 1);
        Talk.due("tree(0)", t.x.tree(0), NONE);
        Talk.due("fault()", t.x.fault(), NONE);
        Talk.due("end(0)", t.x.end(0), 0);
        Talk.due("end(1)", t.x.end(1), NONE);
        for (int i = 0; i <= 3; i++) {
            Talk.due("write(" + i + ")", t.write(i), "!");
        }
        Talk.due("NONE", DrivenRuns.NONE, -1);
        // objects have nothing in common
        Talk other = full();
        other.x.feed(1, 2, 3, 4, 5);
        Talk.due("text(3)", t.text(3), "!");
        Talk.due("is(6)", t.x.is(6), 0);
    }

    private static void twentyBytes() {
        Talk.sentence("2: Twenty bytes come behind the tape: how many it has");
        Counted x = new Counted();
        Talk.due("feed", x.feed(0, 0, 0, 0, 0), 20);
        Talk.due("feed", x.feed(MIN, MAX, -1, 1, 0), 40);
        x.end(3);
        Talk.due("feed behind 3", x.feed(0, 0, 0, 0, 0), 23);
        Talk.due("is(6)", x.is(6), 23);
    }

    private static int four(String s) {
        return s.charAt(0) << 24 | s.charAt(1) << 16 | s.charAt(2) << 8 | s.charAt(3);
    }

    private static void highestFirst() {
        Talk.sentence("2: the highest of a first");
        Talk t = new Talk();
        t.x.feed(four("A(x,"), four("B(y,"), four("C,D)"), four(",a()"), four(",!) "));
        t.x.end(19);
        Talk.due("goal()", t.x.goal(), 8);
        Talk.due("text(3)", t.text(3), "A(x,B(y,C,D),a(),!)");
        // behind a part of what was there
        t.x.feed(four("S(SS"), 0, 0, 0, 0);
        t.x.end(2);
        t.x.feed(four("x)))"), 0, 0, 0, 0);
        t.x.end(4);
        Talk.due("goal()", t.x.goal(), 2);
        Talk.due("text(3)", t.text(3), "S(x)");
        // a byte with its highest bit is another one
        t.x.feed(four("S(A)") | 0x80, 0, 0, 0, 0);
        t.x.end(4);
        t.dueFault("goal()", t.x.goal(), 3);
        t.x.feed(four("S(A)") | MIN, 0, 0, 0, 0);
        t.x.end(4);
        t.dueFault("goal()", t.x.goal(), 0);
    }

    /** 40 CLAUSES of 20 bytes each. */
    private static String longProgram() {
        StringBuilder out = new StringBuilder();
        for (int i = 10; i < 50; i++) {
            out.append('a').append(i).append("(x)=C(x,A,b(),x);");
        }
        return out.toString();
    }

    private static void moreThan800() {
        Talk.sentence("2: NONE, and none come, if there would be more than 800");
        String text = longProgram();
        for (int first = 0; first < 2; first++) {
            Talk t = new Talk();
            t.tape(text);
            Talk.due("800 and 20", t.x.feed(0, 0, 0, 0, 0), NONE);
            Talk.due("800 and 20", t.x.feed(MIN, MAX, -1, -1, -1), NONE);
            Talk.due("is(6)", t.x.is(6), 800);
            Talk.due("program()", t.x.program(), 40);
            Talk.due("text(2)", t.x.text(2), 800);
            for (int k = first; k < 800; k += 2) {
                Talk.due("octet(" + k + ")", t.x.octet(k), text.charAt(k));
            }
        }
    }

    private static void moreThan800Behind() {
        Talk.sentence("2: NONE, and none come, if there would be more than 800: behind 781 .. 799, 780");
        String text = longProgram();
        Talk t = new Talk();
        t.tape(text);
        for (int n = 799; n > 780; n--) {
            t.x.end(n);
            Talk.due(n + " and 20", t.x.feed(-1, -1, -1, -1, -1), NONE);
            Talk.due("is(6)", t.x.is(6), n);
            Talk.due("end(" + (n + 1) + ")", t.x.end(n + 1), NONE);
        }
        t.x.end(780);
        Talk.due("780 and 20", t.x.feed(four("c()="), four("D(A,"), four("A,B,"), four("C(A,"), four("B));")), 800);
        Talk.due("program()", t.x.program(), 40);
        Talk.due("text(2)", t.x.text(2), 800);
        String last = text.substring(700, 780) + "c()=D(A,A,B,C(A,B));";
        for (int k = 0; k < 100; k++) {
            Talk.due("octet(" + (700 + k) + ")", t.x.octet(700 + k), last.charAt(k));
        }
        // as many again on the empty tape
        for (int i = 1; i <= 40; i++) {
            Talk.due("feed", t.x.feed(0, 0, 0, 0, 0), 20 * i);
        }
        Talk.due("feed", t.x.feed(0, 0, 0, 0, 0), NONE);
    }

    private static void firstBytesAlone() {
        Talk.sentence("3: The tape has its first n bytes alone: n.");
        Talk t = new Talk();
        t.x.feed(four("C(A,"), four("B)C)"), 0, 0, 0);
        Talk.due("end(20)", t.x.end(20), 20);
        Talk.due("end(6)", t.x.end(6), 6);
        Talk.due("is(6)", t.x.is(6), 6);
        Talk.due("goal()", t.x.goal(), 3);
        Talk.due("text(3)", t.text(3), "C(A,B)");
        t.x.feed(four("C(A,"), 0, 0, 0, 0);
        Talk.due("end(0)", t.x.end(0), 0);
        Talk.due("end(0) again", t.x.end(0), 0);
        t.dueFault("goal()", t.x.goal(), 0);
    }

    private static void endRefused() {
        Talk.sentence("3: NONE, and nothing is done, if it has not so many, or n is below 0");
        Talk t = full();
        t.x.feed(four("C(A,"), four("B)  "), 0, 0, 0);
        t.x.end(6);
        String before = all(t);
        Talk.due("asked again", all(t), before);
        for (int n : new int[] {7, 20, 800, 801, MAX, -1, -6, MIN, MIN + 6, 1 << 16, 1 << 24}) {
            Talk.due("end(" + n + ")", t.x.end(n), NONE);
        }
        Talk.due("is(6)", t.x.is(6), 6);
        dueSame("end", t, before);
        Talk.due("goal()", t.x.goal(), 3);
        Talk.due("text(3)", t.text(3), "C(A,B)");
        Talk.due("end(1) of the empty tape", t.x.end(1), NONE);
    }

    private static void programWell() {
        Talk.sentence("4: how many CLAUSES (an empty one: 0). Without a FAULT: no tree, no RESIDUE");
        Talk t = full();
        Talk.due("tree(0)", t.x.tree(0) > 0 ? 1 : 0, 1);
        Talk.due("program()", t.program("b(x)=x;c()=A;"), 2);
        Talk.due("tree(0)", t.x.tree(0), NONE);
        Talk.due("text(0)", t.x.text(0), NONE);
        Talk.due("is(6)", t.x.is(6), 0);
        Talk.due("the GOAL stays", t.text(3), "a(a(S(S(Z)),x),Z)");
        Talk.due("what is bound stays", t.x.is(5), 2);
        Talk.due("EXPRESSIONS stay", t.write(1), "C(x,y)");
        // one behind the other, nothing stays of those ahead
        t.program("f(A)=A;f(B)=B;g(A)=A;");
        t.program("f(A,x)=A;f(B,x)=B;");
        t.program("f(x)=x;g()=A;h(x,y)=y;");
        Talk.due("is(2)", t.x.is(2), 3);
        Talk.due("text(2)", t.text(2), "f(x)=x;g()=A;h(x,y)=y;");
        t.x.drive();
        Talk.due("an empty one", t.x.program(), 0);
        Talk.due("is(0)", t.x.is(0), 0);
        Talk.due("is(1)", t.x.is(1), 0);
        Talk.due("is(7)", t.x.is(7), 0);
        Talk.due("text(2)", t.x.text(2), 0);
        Talk.due("clause(0, 0)", t.x.clause(0, 0), NONE);
        Talk.due("tree(0)", t.x.tree(0), NONE);
        Talk.due("fault()", t.x.fault(), NONE);
    }

    private static void programFault() {
        Talk.sentence("4: The tape (empty then). NONE: a FAULT (all stays)");
        for (String text : new String[] {"b(x)=x;c(", "?", "b(x)=x;b(x)=A;", "b(x)=x", " "}) {
            Talk t = full();
            String before = all(t);
            Talk.due("program " + text, t.program(text), NONE);
            dueSame("program " + text, t, before);
            Talk.due("is(6)", t.x.is(6), 0);
            t.dueRun(1, 0, 2, 4, 5);
        }
    }

    private static void goalWell() {
        Talk.sentence("5: its SIZE. Without a FAULT: no tree, no RESIDUE");
        Talk t = full();
        Talk.due("goal()", t.goal("C(a(x,y),!)"), 5);
        Talk.due("tree(0)", t.x.tree(0), NONE);
        Talk.due("text(1)", t.x.text(1), NONE);
        Talk.due("is(6)", t.x.is(6), 0);
        Talk.due("the PROGRAM stays", t.text(2), ADD);
        Talk.due("what is bound stays", t.x.is(5), 2);
        Talk.due("EXPRESSIONS stay", t.write(1), "C(x,y)");
        // the same one, too
        t.x.drive();
        Talk.due("goal()", t.goal("C(a(x,y),!)"), 5);
        Talk.due("tree(0)", t.x.tree(0), NONE);
    }

    private static void goalFault() {
        Talk.sentence("5: The tape (empty then). NONE: a FAULT (all stays)");
        for (String text : new String[] {"", "a(", "x;", "C(x,y", "A A", "a()=A;"}) {
            Talk t = full();
            String before = all(t);
            Talk.due("goal " + text, t.goal(text), NONE);
            dueSame("goal " + text, t, before);
            Talk.due("is(6)", t.x.is(6), 0);
            t.dueRun(1, 0, 2, 4, 5);
        }
    }

    private static void bindWell() {
        Talk.sentence("6: VAR = EXPRESSION of CONS alone, with ; between: how many");
        Talk t = new Talk();
        t.goal("C(x,x1,m,z99)");
        Talk.due("bind()", t.bind("x=A"), 1);
        Talk.due("result", t.result(0), "C(A,x1,m,z99)");
        Talk.due("bind()", t.bind("z99=C(A,B(D));x1=E;m=S(S(Z))"), 3);
        Talk.due("is(5)", t.x.is(5), 3);
        Talk.due("is(6)", t.x.is(6), 0);
        Talk.due("result", t.result(0), "C(x,E,S(S(Z)),C(A,B(D)))");
        Talk.due("the GOAL stays", t.text(3), "C(x,x1,m,z99)");
        // one that stands nowhere
        Talk.due("bind()", t.bind("o=A"), 1);
        Talk.due("result", t.result(0), "C(x,x1,m,z99)");
        Talk.due("a full tape", t.bind(manyBindings()), 161);
        t.goal("C(m,m9,z9,z16)");
        Talk.due("result", t.result(0), "C(B,B,B,D)");
        t.goal("C(z10,z17,y0,x10)");
        Talk.due("result", t.result(0), "C(D,z17,B,x10)");
    }

    /** As many as go on a tape: 14 and 140 with short names, then 7 with long ones. */
    private static String manyBindings() {
        StringBuilder out = new StringBuilder();
        for (char c = 'm'; c <= 'z'; c++) {
            out.append(c).append("=B;");
            for (int i = 0; i < 10; i++) {
                out.append(c).append(i).append("=B;");
            }
        }
        for (int i = 10; i < 17; i++) {
            out.append("z").append(i).append("=D").append(i < 16 ? ";" : "");
        }
        return out.toString();
    }

    private static void bindEmpty() {
        Talk.sentence("6: an empty one: none");
        Talk t = full();
        Talk.due("bind()", t.bind(""), 0);
        Talk.due("is(5)", t.x.is(5), 0);
        Talk.due("fault()", t.x.fault(), NONE);
        t.goal("C(x,y)");
        Talk.due("result", t.result(0), "C(x,y)");
    }

    private static void bindTwice() {
        Talk.sentence("6: a VAR told twice at its first byte");
        Talk t = new Talk();
        t.dueFault("bind", t.bind("x12=A;x12=A"), 6);
        t.dueFault("bind", t.bind("x=A;y=B;x=B"), 8);
        t.dueFault("bind", t.bind("x=A;x="), 4);
        t.dueFault("bind", t.bind("x=A;x?"), 4);
        Talk.due("unlike names", t.bind("x=A;x1=A;x10=A;x0=A"), 4);
    }

    private static void bindFault() {
        Talk.sentence("6: NONE: a FAULT (all stays)");
        String[] texts = {"x=A;x=B", "x", "x=", "x=A;", ";", "x=y", "x=!", "x=a()", "x=S(y)", "x=S(!)", "a()=A;", "x=A,y=A", "x=A;z=B y"};
        for (String text : texts) {
            Talk t = full();
            String before = all(t);
            Talk.due("bind " + text, t.bind(text), NONE);
            dueSame("bind " + text, t, before);
            t.goal("C(x,y,z)");
            Talk.due("result", t.result(0), "C(S(Z),A,z)");
        }
    }

    private static void boundNoMore() {
        Talk.sentence("6: Those ahead are bound no more.");
        Talk t = full();
        Talk.due("bind()", t.bind("z=B"), 1);
        Talk.due("is(5)", t.x.is(5), 1);
        Talk.due("the tree stays", t.x.tree(0) > 0 ? 1 : 0, 1);
        t.goal("C(x,y,z)");
        Talk.due("result", t.result(0), "C(x,y,B)");
    }

    private static void expressionWell() {
        Talk.sentence("7: The tape (empty then) is EXPRESSION i (0 .. 3): its SIZE");
        Talk t = full();
        Talk.due("expression(3)", t.expression(3, "C(A,!)"), 3);
        Talk.due("expression(0)", t.expression(0, "x"), 1);
        Talk.due("is(6)", t.x.is(6), 0);
        String[] texts = {"x", "C(x,y)", "a(a(x,y),z)", "C(A,!)"};
        for (int i = 0; i < 4; i++) {
            Talk.due("write(" + i + ")", t.write(i), texts[i]);
        }
        Talk.due("the tree stays", t.x.tree(0) > 0 ? 1 : 0, 1);
        Talk.due("the GOAL stays", t.text(3), "a(a(S(S(Z)),x),Z)");
        // nothing stays of a longer one
        t.expression(2, "C(a(z,z9),k(),t,!)");
        Talk.due("expression(2)", t.expression(2, "C(A,B)"), 3);
        int[] of = {3, 0, 1, 1, 0};
        for (int what = 0; what < of.length; what++) {
            Talk.due("of(2, " + what + ")", t.x.of(2, what), of[what]);
        }
        Talk.due("runOf(2, 0)", t.x.runOf(2, 0), 0);
        Talk.due("relation(2, 2, 0)", t.x.relation(2, 2, 0), 1);
    }

    private static void expressionFault() {
        Talk.sentence("7: NONE: a FAULT");
        for (int i = 0; i < 4; i++) {
            for (String text : new String[] {"", "C(x", "x=A", "a()=A;"}) {
                Talk t = full();
                String before = all(t);
                Talk.due("expression " + text, t.expression(i, text), NONE);
                dueSame("expression " + text, t, before);
                Talk.due("is(6)", t.x.is(6), 0);
            }
        }
    }

    private static void noSuchExpression() {
        Talk.sentence("7: or no such i (the tape is empty then, too)");
        for (int i : new int[] {-1, 4, 5, MIN, MAX, 1 << 16, -4, 256}) {
            for (String text : new String[] {"A", "?"}) {
                Talk t = full();
                String before = all(t);
                Talk.due("expression(" + i + ")", t.expression(i, text), NONE);
                Talk.due("is(6)", t.x.is(6), 0);
                Talk.due("fault()", t.x.fault(), NONE);
                dueSame("expression(" + i + ")", t, before);
            }
        }
    }

    private static void faultOfLatest() {
        Talk.sentence("8: The FAULT's place of the latest; NONE, if that was well, for no such i, ahead of any");
        Talk t = new Talk();
        Talk.due("ahead of any", t.x.fault(), NONE);
        t.x.drive();
        Talk.due("still", t.x.fault(), NONE);
        t.dueFault("program", t.program("a()"), 3);
        t.dueFault("goal", t.goal("a("), 2);
        t.dueFault("bind", t.bind("x"), 1);
        t.dueFault("expression", t.expression(3, "C(A,"), 4);
        t.x.drive();
        t.x.take();
        t.x.run(0, 0);
        t.x.feed(0, 0, 0, 0, 0);
        t.x.end(99);
        Talk.due("behind others", t.x.fault(), 4);
        Talk.due("no such i", t.expression(4, "C(A,"), NONE);
        Talk.due("fault()", t.x.fault(), NONE);
        String[] well = {"a()=A;", "A", "x=A", "A"};
        for (int i = 0; i < 4; i++) {
            t.dueFault("goal", t.goal("?"), 0);
            t.tape(well[i]);
            int answer = i == 0 ? t.x.program() : i == 1 ? t.x.goal() : i == 2 ? t.x.bind() : t.x.expression(0);
            Talk.due("well", answer, 1);
            Talk.due("fault()", t.x.fault(), NONE);
        }
    }

    private static int[] others(int from) {
        return new int[] {from, from + 1, -1, -2, MIN, MAX, 1 << 16, 1 << 24, 256, -256};
    }

    private static void isEach() {
        Talk.sentence("9: is: 0 .. 7; NONE for others");
        Talk t = Talk.told("a(N,x)=x;a(C(x,y),z)=C(x,a(y,z));b(x)=a(a(x,x),x);a(N)=N;c()=!;", "a(x,C(y,x))");
        t.bind("x=N;y=N");
        t.x.feed(0, 0, 0, 0, 0);
        int[] is = {5, 4, 2, 5, 2, 2, 20, 13};
        for (int what = 0; what < is.length; what++) {
            Talk.due("is(" + what + ")", t.x.is(what), is[what]);
        }
        for (int what : others(8)) {
            Talk.due("is(" + what + ")", t.x.is(what), NONE);
        }
    }

    private static void clauseEach() {
        Talk.sentence("10: clause: 0 .. 4 (the letter 1 .. 26; 0 AT ONCE); NONE for others");
        Talk t = Talk.told("a(A,x)=x;a(Z(x,y,z,t),m)=C(a(x,y),b(a(z,t)));b(x)=!;c()=c();", "!");
        int[][] clauses = {{1, 2, 1, 0, 0}, {8, 2, 26, 4, 3}, {1, 1, 0, 0, 0}, {1, 0, 0, 0, 1}};
        for (int k = 0; k < clauses.length; k++) {
            for (int what = 0; what < 5; what++) {
                Talk.due("clause(" + k + ", " + what + ")", t.x.clause(k, what), clauses[k][what]);
            }
            for (int what : others(5)) {
                Talk.due("clause(" + k + ", " + what + ")", t.x.clause(k, what), NONE);
            }
        }
        for (int k : others(4)) {
            Talk.due("clause(" + k + ", 0)", t.x.clause(k, 0), NONE);
        }
        t.program("a()=A;");
        Talk.due("clause(1, 0)", t.x.clause(1, 0), NONE);
    }

    private static void runEach() {
        Talk.sentence("11: RUN of the GOAL (which 0), of THE NEW GOAL by the RESIDUE (1): what 0 .. 3");
        Talk t = Talk.told(ADD + "f(x)=C(a(x,x),a(x,x));", "f(x)");
        t.bind("x=S(Z)");
        Talk.due("drive()", t.x.drive() > 0 ? 1 : 0, 1);
        t.dueRun(0, 0, 5, 7, 11);
        Talk.due("result", t.result(0), "C(S(S(Z)),S(S(Z)))");
        Talk.due("result", t.result(1), "C(S(S(Z)),S(S(Z)))");
        Talk.due("run(1, 0)", t.x.run(1, 0), 0);
        Talk.due("run(1, 2)", t.x.run(1, 2), 7);
    }

    private static void runNone() {
        Talk.sentence("11: 1: NONE without a tree; NONE for others");
        Talk t = full();
        for (int which : others(2)) {
            for (int what = 0; what <= 3; what++) {
                Talk.due("run(" + which + ", " + what + ")", t.x.run(which, what), NONE);
            }
            Talk.due("result(" + which + ")", t.x.result(which), NONE);
        }
        for (int what : others(4)) {
            Talk.due("run(0, " + what + ")", t.x.run(0, what), NONE);
            Talk.due("run(1, " + what + ")", t.x.run(1, what), NONE);
        }
        t.goal("x");
        for (int what = 0; what <= 3; what++) {
            Talk.due("run(1, " + what + ")", t.x.run(1, what), NONE);
        }
        Talk.due("run(0, 2)", t.x.run(0, 2), 2);
    }

    private static void resultEach() {
        Talk.sentence("12: The same, and what is at the end is written: how many bytes. NONE likewise");
        Talk t = Talk.told(ADD, "a(S(x),Z)");
        Talk.due("STUCK", t.result(0), "S(a(x,Z))");
        t.bind("x=Z");
        Talk.due("DONE", t.result(0), "S(Z)");
        Talk.due("result(1)", t.x.result(1), NONE);
        Talk.due("result(2)", t.x.result(2), NONE);
        Talk.due("result(-1)", t.x.result(-1), NONE);
        Talk.due("what was written stays", t.written(), "S(Z)");
        t.x.drive();
        Talk.due("result(1)", t.result(1), "S(Z)");
        t = Talk.told("f(x)=f(C(x));g(x)=g(x);", "g(y)");
        Talk.due("200 STEPS", t.result(0), "g(y)");
        t = Talk.told("f(x)=f(C(x));", "f(Z)");
        // SIZE 121
        Talk.due("too large", t.result(0), "f(" + Talk.nested("C(", 119, "Z", ")") + ")");
        Talk.due("deepest()", t.x.deepest(), 1);
    }

    private static void runOfEach() {
        Talk.sentence("13: RUN of EXPRESSION i, likewise by the PROGRAM. NONE for others");
        Talk t = full();
        int[][] runs = {{0, 3, 3, 5}, {0, 0, 4, 4}, {1, 3, 5, 8}, {1, 0, 1, 1}};
        t.expression(2, "C(a(x,y),k(),a(x,y))");
        runs[2] = new int[] {1, 2, 8, 10};
        for (int i = 0; i < 4; i++) {
            for (int what = 0; what < 4; what++) {
                Talk.due("runOf(" + i + ", " + what + ")", t.x.runOf(i, what), runs[i][what]);
            }
            for (int what : others(4)) {
                Talk.due("runOf(" + i + ", " + what + ")", t.x.runOf(i, what), NONE);
            }
        }
        for (int i : others(4)) {
            Talk.due("runOf(" + i + ", 0)", t.x.runOf(i, 0), NONE);
        }
        Talk.due("they stay", t.write(0), "a(S(x),y)");
    }

    private static void relationNone() {
        Talk.sentence("14: relation: NONE for others");
        Talk t = full();
        for (int n : others(4)) {
            for (int m = 0; m <= 3; m++) {
                Talk.due("relation", t.x.relation(n, m, m), NONE);
                Talk.due("relation", t.x.relation(m, n, m), NONE);
                Talk.due("relation", t.x.relation(m, m, n), NONE);
                Talk.due("relation of one to itself", t.x.relation(m, m, m), 1);
            }
        }
        Talk.due("relation", t.x.relation(-1, 4, 9), NONE);
    }

    private static void commonEach() {
        Talk.sentence("15: the COMMON form is written (VARS m0, m1, .. by ORDER): how many bytes. NONE for others");
        Talk t = new Talk();
        t.expression(0, "a(z,C(m1,z,!,y))");
        t.expression(3, "a(y,C(m0,y,!,z))");
        Talk.due("common(0, 3)", t.x.common(0, 3), 19);
        Talk.due("written", t.written(), "a(m0,C(m1,m0,!,m2))");
        for (int n : others(4)) {
            Talk.due("common", t.x.common(n, 0), NONE);
            Talk.due("common", t.x.common(0, n), NONE);
        }
        Talk.due("what was written stays", t.written(), "a(m0,C(m1,m0,!,m2))");
        Talk.due("common(0, 0)", t.x.common(0, 0), 19);
        Talk.due("common(1, 2)", t.x.common(1, 2), 1);
        Talk.due("written", t.written(), "!");
        // as many VARS as can be
        StringBuilder row = new StringBuilder("x0");
        StringBuilder other = new StringBuilder("y0");
        for (int i = 1; i < 8; i++) {
            row.append(",x").append(i);
            other.append(",y").append(i);
        }
        t.expression(0, "a(" + row + ")");
        t.expression(1, "a(" + other + ")");
        t.x.common(0, 1);
        Talk.due("written", t.written(), "a(m0,m1,m2,m3,m4,m5,m6,m7)");
    }

    private static void commonOfEach() {
        Talk.sentence("16: How many VARS that COMMON form has (what 0), its SIZE (1). NONE for others");
        Talk t = new Talk();
        t.expression(0, "C(x,S(A),D(A,A),y)");
        t.expression(1, "C(y,S(B),D(B,A),x)");
        t.expression(2, "A");
        Talk.due("commonOf(0, 1, 0)", t.x.commonOf(0, 1, 0), 3);
        Talk.due("commonOf(0, 2, 0)", t.x.commonOf(0, 2, 0), 1);
        Talk.due("commonOf(0, 1, 1)", t.x.commonOf(0, 1, 1), 8);
        Talk.due("commonOf(2, 2, 0)", t.x.commonOf(2, 2, 0), 0);
        Talk.due("commonOf(2, 0, 1)", t.x.commonOf(2, 0, 1), 1);
        for (int n : others(4)) {
            Talk.due("commonOf", t.x.commonOf(n, 0, 0), NONE);
            Talk.due("commonOf", t.x.commonOf(0, n, 1), NONE);
        }
        for (int n : others(2)) {
            Talk.due("commonOf", t.x.commonOf(0, 0, n), NONE);
        }
    }

    private static void stepDone() {
        Talk.sentence("17: 1; 0 it is DONE (k is that with what is bound)");
        Talk t = full();
        Talk.due("step(0, 3)", t.x.step(0, 3), 1);
        Talk.due("write(3)", t.write(3), "S(a(S(Z),A))");
        Talk.due("write(0)", t.write(0), "a(S(x),y)");
        Talk.due("step(1, 0)", t.x.step(1, 0), 0);
        Talk.due("write(0)", t.write(0), "C(S(Z),A)");
        Talk.due("write(1)", t.write(1), "C(x,y)");
        Talk.due("onto itself", t.x.step(1, 1), 0);
        Talk.due("write(1)", t.write(1), "C(S(Z),A)");
        Talk.due("the last STEP", t.x.step(3, 3) + t.x.step(3, 3) + t.x.step(3, 3), 2);
        Talk.due("write(3)", t.write(3), "S(S(A))");
        Talk.due("is(6)", t.x.is(6), 0);
    }

    private static void stepStuck() {
        Talk.sentence("17: STUCK (k stays): -2");
        Talk t = full();
        String[] stuck = {"!", "k()", "a(z,Z)", "a(A,Z)", "C(x,!)", "a(!,x)"};
        for (String text : stuck) {
            t.expression(3, text);
            Talk.due("step of " + text, t.x.step(3, 1), -2);
            Talk.due("write(1)", t.write(1), "C(x,y)");
            Talk.due("onto itself", t.x.step(3, 3), -2);
            Talk.due("write(3)", t.write(3), text);
        }
    }

    private static void stepLarge() {
        Talk.sentence("17: NONE if its SIZE would be above 40");
        String ten = Talk.nested("S(", 9, "A", ")");
        String nine = Talk.nested("S(", 8, "A", ")");
        Talk t = Talk.told("e(x,y)=D(x,x,x,y);f(x)=x;g(x,y)=y;", "!");
        t.expression(0, "e(" + ten + "," + nine + ")");
        Talk.due("SIZE 40", t.x.step(0, 1), 1);
        Talk.due("of(1, 0)", t.x.of(1, 0), 40);
        t.expression(0, "e(" + ten + "," + ten + ")");
        Talk.due("SIZE 41", t.x.step(0, 1), NONE);
        Talk.due("k stays", t.x.of(1, 0), 40);
        Talk.due("i stays", t.x.of(0, 0), 21);
        t.bind("x=" + ten + ";y=" + nine);
        t.expression(0, "D(x,x,x,y)");
        Talk.due("DONE, SIZE 40", t.x.step(0, 2), 0);
        Talk.due("of(2, 0)", t.x.of(2, 0), 40);
        t.expression(0, "D(x,x,x,x)");
        Talk.due("DONE, SIZE 41", t.x.step(0, 2), NONE);
        Talk.due("k stays", t.x.of(2, 0), 40);
        t.expression(0, "f(D(x,x,x,x))");
        Talk.due("SIZE 41 by a STEP", t.x.step(0, 2), NONE);
        t.expression(0, "g(D(x,x,x,x),A)");
        Talk.due("SIZE 1 by a STEP", t.x.step(0, 2), 1);
        Talk.due("write(2)", t.write(2), "A");
    }

    private static void stepNone() {
        Talk.sentence("17: NONE for others");
        Talk t = full();
        for (int n : others(4)) {
            Talk.due("step(" + n + ", 0)", t.x.step(n, 0), NONE);
            Talk.due("step(0, " + n + ")", t.x.step(0, n), NONE);
        }
        Talk.due("write(0)", t.write(0), "a(S(x),y)");
        Talk.due("write(2)", t.write(2), "a(a(x,y),z)");
    }

    private static void writeEach() {
        Talk.sentence("18: EXPRESSION i is written, VARS as they are: how many bytes. NONE for others");
        Talk t = full();
        String text = "C(x99,A,a(m,z0),l99(c0(),!,D(x)))";
        Talk.due("expression", t.expression(3, text), 11);
        Talk.due("write(3)", t.x.write(3), text.length());
        Talk.due("written", t.written(), text);
        for (int n : others(4)) {
            Talk.due("write(" + n + ")", t.x.write(n), NONE);
        }
        Talk.due("what was written stays", t.written(), text);
    }

    private static void dueOf(String text, int... want) {
        Talk t = new Talk();
        t.expression(2, text);
        for (int what = 0; what < want.length; what++) {
            Talk.due("of(2, " + what + ") of " + text, t.x.of(2, what), want[what]);
        }
        for (int what : others(5)) {
            Talk.due("of(2, " + what + ") of " + text, t.x.of(2, what), NONE);
        }
    }

    private static void ofEach() {
        Talk.sentence("19: 0 SIZE, 1 VARS, 2 how deep its ( lie, 3 kind (0 VAR, 1 CON, 2 call, 3 !), 4 calls. NONE for others");
        dueOf("x", 1, 1, 0, 0, 0);
        dueOf("A", 1, 0, 0, 1, 0);
        dueOf("C(A)", 2, 0, 1, 1, 0);
        dueOf("!", 1, 0, 0, 3, 0);
        dueOf("a()", 1, 0, 1, 2, 1);
        dueOf("a(x)", 2, 1, 1, 2, 1);
        dueOf("C(a(),S(S(b())),x)", 6, 1, 4, 1, 2);
        dueOf("C(S(S(S(A))),x,y,x)", 8, 2, 4, 1, 0);
        dueOf(Talk.nested("b(", 19, "a()", ")"), 20, 0, 20, 2, 20);
        dueOf(Talk.nested("b(", 19, "x", ")"), 20, 1, 19, 2, 19);
        Talk t = new Talk();
        for (int i : others(4)) {
            Talk.due("of(" + i + ", 0)", t.x.of(i, 0), NONE);
        }
    }
}
