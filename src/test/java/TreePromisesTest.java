/** Promises 20 to 29: a test for each sentence that names an edge or a refused call. */
public final class TreePromisesTest {
    private static final int NONE = -1;
    private static final int NO_NODE = -2;
    private static final String ADD = "a(Z,x)=x;a(S(x),y)=S(a(x,y));";
    private static final String APPEND = "a(N,x)=x;a(C(x,y),z)=C(x,a(y,z));";
    private static final String GROWN = "b(Z,x)=x;b(S(x),y)=b(x,S(y));c(x)=b(x,x);";

    public static void main(String[] args) {
        driveAnswers();
        treeEach();
        treeOfLatest();
        treeNone();
        nodeEach();
        nodeNone();
        writeNodeEach();
        rankedEach();
        rankedNone();
        textEach();
        textNone();
        octetEach();
        octetOfLatest();
        takeEach();
        takeNone();
        takenStays();
        savedBoth();
        savedNotSo();
        savedNoTree();
        deepestOfEach();
        deepestWithout();
        deepestOfNone();
        Talk.finish("TreePromisesTest");
    }

    private static int[] others(int from) {
        return new int[] {from, from + 1, -1, -2, Integer.MIN_VALUE, Integer.MAX_VALUE, 1 << 16, 1 << 24, 256, -256};
    }

    private static void driveAnswers() {
        Talk.sentence("20: how many NODES, the tree and the RESIDUE are there then; -2 .. -6: it broke off");
        Talk t = Talk.told(ADD, "a(x,y)");
        for (int i = 0; i < 3; i++) {
            Talk.due("drive()", t.x.drive(), 4);
            Talk.due("text(0)", t.text(0), "a0(Z,m0)=m0;a0(S(m0),m1)=S(a0(m0,m1));");
        }
        // bound VARS are VARS all the same
        t.bind("x=Z");
        Talk.due("drive()", t.x.drive(), 4);
        Talk.due("text(1)", t.text(1), "a0(x,y)");
        t.program("a()=" + Talk.nested("S(", 19, "b()", ")") + ";b()=" + Talk.nested("S(", 19, "c()", ")")
                + ";c()=" + Talk.nested("S(", 19, "A", ")") + ";d(x)=C(x,x);");
        t.goal("a()");
        Talk.due("drive()", t.x.drive(), 61);
        t.goal("C(a(),a())");
        Talk.due("drive()", t.x.drive(), -2);
        t.goal("a()");
        Talk.due("drive()", t.x.drive(), 61);
    }

    private static void treeEach() {
        Talk.sentence("21: Of the tree: 0 .. 10");
        Talk t = Talk.told(GROWN, "C(c(y),S(!))");
        Talk.due("drive()", t.x.drive(), 14);
        int[] want = {14, 16, 1, 1, 2, 1, 5, 6, 1, 2, 6};
        for (int what = 0; what < want.length; what++) {
            Talk.due("tree(" + what + ")", t.x.tree(what), want[what]);
        }
        t = Talk.told(ADD, "a(x,y)");
        t.x.drive();
        int[] split = {4, 4, 1, 1, 0, 0, 4, 2, 1, 2, 3};
        for (int what = 0; what < split.length; what++) {
            Talk.due("tree(" + what + ")", t.x.tree(what), split[what]);
        }
        t = Talk.told(GROWN, "b(y,y)");
        t.x.drive();
        Talk.due("tree(4)", t.x.tree(4), 2);
        t = Talk.told("", "x");
        t.x.drive();
        int[] one = {1, 1, 0, 0, 0, 0, 1, 0, 0, 0, 1};
        for (int what = 0; what < one.length; what++) {
            Talk.due("tree(" + what + ")", t.x.tree(what), one[what]);
        }
    }

    private static void treeOfLatest() {
        Talk.sentence("21: of the tree that is there now");
        Talk t = Talk.told(GROWN, "c(y)");
        Talk.due("drive()", t.x.drive(), 11);
        Talk.due("tree(5)", t.x.tree(5), 1);
        t.goal("S(A)");
        Talk.due("drive()", t.x.drive(), 2);
        int[] want = {2, 2, 0, 0, 0, 0, 2, 1, 0, 0, 2};
        for (int what = 0; what < want.length; what++) {
            Talk.due("tree(" + what + ")", t.x.tree(what), want[what]);
        }
        Talk.due("node(2, 0)", t.x.node(2, 0), NO_NODE);
        Talk.due("text(0)", t.x.text(0), 0);
        // what was FOLDED to is so no more
        t = Talk.told("h(x,y)=h(y,x);f(x)=x;g(x)=S(S(x));", "h(x,y)");
        Talk.due("drive()", t.x.drive(), 2);
        Talk.due("node(1, 7)", t.x.node(1, 7), 0);
        Talk.due("node(0, 8)", t.x.node(0, 8), 0);
        for (String goal : new String[] {"f(y)", "S(f(f(y)))", "g(y)"}) {
            t.goal(goal);
            int nodes = t.x.drive();
            for (int k = 0; k < nodes; k++) {
                Talk.due("node(" + k + ", 7)", t.x.node(k, 7), NONE);
                Talk.due("node(" + k + ", 8)", t.x.node(k, 8), NONE);
            }
            Talk.due("text(0)", t.x.text(0), 0);
        }
    }

    private static void treeNone() {
        Talk.sentence("21: NONE without a tree, for others");
        Talk t = Talk.told(ADD, "a(x,y)");
        for (int what = 0; what <= 10; what++) {
            Talk.due("tree(" + what + ")", t.x.tree(what), NONE);
        }
        t.x.drive();
        for (int what : others(11)) {
            Talk.due("tree(" + what + ")", t.x.tree(what), NONE);
        }
    }

    private static void nodeEach() {
        Talk.sentence("22: Of NODE k: 0 .. 8 (NONE)");
        Talk t = Talk.told(ADD + "f(x)=a(x,k());", "C(f(x),f(x),!)");
        int[][] nodes = {
            {1, -1, -1, 0, 6, 1, 3, -1, -1},
            {2, 0, 0, 1, 2, 1, 1, -1, -1},
            {3, 1, 0, 2, 3, 1, 2, -1, 0},
            {6, 2, 0, 3, 1, 0, 0, -1, -1},
            {1, 2, 1, 3, 4, 1, 1, -1, -1},
            {4, 4, 0, 4, 3, 1, 0, 2, -1},
            {2, 0, 1, 1, 2, 1, 1, -1, -1},
            {3, 6, 0, 2, 3, 1, 2, -1, 1},
            {6, 7, 0, 3, 1, 0, 0, -1, -1},
            {1, 7, 1, 3, 4, 1, 1, -1, -1},
            {4, 9, 0, 4, 3, 1, 0, 7, -1},
            {6, 0, 2, 1, 1, 0, 0, -1, -1},
        };
        Talk.due("drive()", t.x.drive(), nodes.length);
        for (int k = 0; k < nodes.length; k++) {
            for (int what = 0; what <= 8; what++) {
                Talk.due("node(" + k + ", " + what + ")", t.x.node(k, what), nodes[k][what]);
            }
        }
    }

    private static void nodeNone() {
        Talk.sentence("22: -2 for others");
        Talk t = Talk.told(ADD, "a(x,y)");
        Talk.due("without a tree", t.x.node(0, 0), NO_NODE);
        t.x.drive();
        for (int n : others(4)) {
            for (int what = 0; what <= 8; what++) {
                Talk.due("node(" + n + ", " + what + ")", t.x.node(n, what), NO_NODE);
            }
        }
        for (int n : others(9)) {
            for (int k = 0; k <= 3; k++) {
                Talk.due("node(" + k + ", " + n + ")", t.x.node(k, n), NO_NODE);
            }
        }
        t.goal("a(x,y)");
        Talk.due("without a tree again", t.x.node(0, 0), NO_NODE);
    }

    private static void writeNodeEach() {
        Talk.sentence("23: NODE k's EXPRESSION is written, VARS m0, m1, .. by ORDER: how many bytes. NONE for others");
        Talk t = Talk.told(ADD, "C(a(z9,m1),m1,m0,z9)");
        Talk.due("without a tree", t.x.writeNode(0), NONE);
        t.x.drive();
        String[] texts = {"C(a(m0,m1),m1,m2,m0)", "a(m0,m1)", "m0", "S(a(m0,m1))", "a(m0,m1)", "m0", "m0", "m0"};
        Talk.due("tree(0)", t.x.tree(0), texts.length);
        for (int k = 0; k < texts.length; k++) {
            Talk.due("writeNode(" + k + ")", t.x.writeNode(k), texts[k].length());
            Talk.due("written", t.written(), texts[k]);
        }
        for (int k : others(texts.length)) {
            Talk.due("writeNode(" + k + ")", t.x.writeNode(k), NONE);
        }
        Talk.due("what was written stays", t.written(), "m0");
        t.program(ADD);
        Talk.due("without a tree again", t.x.writeNode(0), NONE);
    }

    private static void rankedEach() {
        Talk.sentence("24: The NODE at a place by SIZE (0), by how deep (1), by VARS (2), the greatest first, of like ones by numbers");
        Talk t = Talk.told("", "C(x,D(x,y,A),S(S(z)),D(x,y))");
        Talk.due("drive()", t.x.drive(), 12);
        // 0 C, 1 x, 2 D(x,y,A), 3 x, 4 y, 5 A, 6 S(S(z)), 7 S(z), 8 z, 9 D(x,y), 10 x, 11 y
        int[][] ranks = {
            {0, 2, 6, 9, 7, 1, 3, 4, 5, 8, 10, 11},
            {8, 3, 4, 5, 7, 10, 11, 1, 2, 6, 9, 0},
            {0, 2, 9, 1, 3, 4, 6, 7, 8, 10, 11, 5},
        };
        for (int what = 0; what <= 2; what++) {
            for (int place = 0; place < 12; place++) {
                Talk.due("ranked(" + place + ", " + what + ")", t.x.ranked(place, what), ranks[what][place]);
            }
        }
    }

    private static void rankedNone() {
        Talk.sentence("24: NONE for others");
        Talk t = Talk.told(ADD, "a(x,y)");
        Talk.due("without a tree", t.x.ranked(0, 0), NONE);
        t.x.drive();
        for (int what = 0; what <= 2; what++) {
            Talk.due("the last place", t.x.ranked(3, what) >= 0 ? 1 : 0, 1);
            for (int place : others(4)) {
                Talk.due("ranked(" + place + ", " + what + ")", t.x.ranked(place, what), NONE);
            }
        }
        for (int what : others(3)) {
            Talk.due("ranked(0, " + what + ")", t.x.ranked(0, what), NONE);
        }
        t.goal("a(x,y)");
        Talk.due("without a tree again", t.x.ranked(0, 0), NONE);
    }

    private static void textEach() {
        Talk.sentence("25: The RESIDUE (0), THE NEW GOAL (1), the PROGRAM (2; its VARS as told), the GOAL (3) is written as a text");
        String program = "a(Z)=A;a(C(z9,m),y)=P(y,z9,m,a(m,!));b(z99)=z99;c()=c();a(Z,x)=x;l99(Q,x)=a(x);";
        Talk t = Talk.told(program, "C(a(x9,m),c(),!,b(m))");
        Talk.due("text(2)", t.text(2), program);
        Talk.due("text(3)", t.text(3), "C(a(x9,m),c(),!,b(m))");
        Talk.due("drive()", t.x.drive() > 0 ? 1 : 0, 1);
        Talk.due("text(0)", t.text(0), "a0(C(m0,m1),m2)=P(m2,m0,m1,a1(m1));a0(Z,m0)=m0;"
                + "a1(C(m0,m1))=P(!,m0,m1,a1(m1));a1(Z)=!;a2()=a2();");
        Talk.due("text(1)", t.text(1), "C(a0(x9,m),a2(),!,m)");
        Talk.sentence("25: what is written can be told");
        t = new Talk();
        Talk.due("program()", t.program("a0(C(m0,m1),m2)=P(m2,m0,m1,a1(m1));a0(Z,m0)=m0;"
                + "a1(C(m0,m1))=P(!,m0,m1,a1(m1));a1(Z)=!;a2()=a2();"), 5);
        Talk.due("goal()", t.goal("C(a0(x9,m),a2(),!,m)"), 7);
    }

    private static void textNone() {
        Talk.sentence("25: NONE without a tree (0, 1), for others");
        Talk t = Talk.told(ADD, "a(x,y)");
        Talk.due("text(3)", t.text(3), "a(x,y)");
        Talk.due("text(0)", t.x.text(0), NONE);
        Talk.due("text(1)", t.x.text(1), NONE);
        t.x.drive();
        for (int what : others(4)) {
            Talk.due("text(" + what + ")", t.x.text(what), NONE);
        }
        Talk.due("what was written stays", t.written(), "a(x,y)");
        Talk.due("text(0)", t.x.text(0), 38);
        t.goal("x");
        Talk.due("text(0)", t.x.text(0), NONE);
        Talk.due("text(1)", t.x.text(1), NONE);
        Talk.due("text(2)", t.text(2), ADD);
        Talk.due("text(3)", t.text(3), "x");
    }

    private static void octetEach() {
        Talk.sentence("26: Byte k of what was written latest. NONE: there is none.");
        Talk t = new Talk();
        Talk.due("ahead of any", t.x.octet(0), NONE);
        t.goal("a(x9)");
        t.x.text(3);
        int[] bytes = {'a', '(', 'x', '9', ')'};
        for (int k = 0; k < bytes.length; k++) {
            Talk.due("octet(" + k + ")", t.x.octet(k), bytes[k]);
        }
        for (int k : others(bytes.length)) {
            Talk.due("octet(" + k + ")", t.x.octet(k), NONE);
        }
        // a short text behind a long one; an empty one
        t.goal("x");
        t.x.text(3);
        Talk.due("octet(0)", t.x.octet(0), 'x');
        Talk.due("octet(1)", t.x.octet(1), NONE);
        Talk.due("text(2)", t.x.text(2), 0);
        Talk.due("octet(0)", t.x.octet(0), NONE);
    }

    private static void octetOfLatest() {
        Talk.sentence("26: of what was written latest, by each call that writes, and by no other");
        Talk t = Talk.told(ADD, "a(Z,x)");
        t.expression(0, "S(x)");
        t.expression(1, "S(A)");
        Talk.due("drive()", t.x.drive(), 2);
        t.x.write(0);
        Talk.due("write", t.written(), "S(x)");
        t.x.common(0, 1);
        Talk.due("common", t.written(), "S(m0)");
        t.x.result(0);
        Talk.due("result", t.written(), "x");
        t.x.writeNode(0);
        Talk.due("writeNode", t.written(), "a(Z,m0)");
        t.x.text(2);
        Talk.due("text", t.written(), ADD);
        t.x.write(1);
        t.x.commonOf(0, 1, 1);
        t.x.run(0, 0);
        t.x.runOf(0, 0);
        t.x.step(0, 2);
        t.x.relation(0, 1, 1);
        t.x.saved();
        t.x.drive();
        t.bind("x=A");
        t.expression(3, "B");
        t.x.take();
        t.goal("D");
        t.program("");
        t.x.write(4);
        t.x.text(0);
        t.x.result(1);
        t.x.writeNode(0);
        t.x.common(0, -1);
        Talk.due("the others leave it", t.written(), "S(A)");
    }

    private static void takeEach() {
        Talk.sentence("27: RESIDUE, THE NEW GOAL become PROGRAM, GOAL: how many CLAUSES; no tree then");
        Talk t = Talk.told(APPEND, "a(a(x,y),z)");
        t.bind("x=N;y=N");
        t.expression(1, "a1(N,Z)");
        t.x.drive();
        String residue = t.text(0);
        Talk.due("take()", t.x.take(), 4);
        Talk.due("tree(0)", t.x.tree(0), NONE);
        Talk.due("text(0)", t.x.text(0), NONE);
        Talk.due("saved()", t.x.saved(), -1001);
        Talk.due("text(2)", t.text(2), residue);
        Talk.due("text(3)", t.text(3), "a0(x,y,z)");
        int[] is = {4, 2, 0, 4, 3, 2, 0, 15};
        for (int what = 0; what < is.length; what++) {
            Talk.due("is(" + what + ")", t.x.is(what), is[what]);
        }
        Talk.due("result", t.result(0), "z");
        Talk.due("runOf(1, 1)", t.x.runOf(1, 1), 1);
        // no CLAUSES
        t = Talk.told("f()=A;", "S(f())");
        t.x.drive();
        Talk.due("take()", t.x.take(), 0);
        Talk.due("text(2)", t.x.text(2), 0);
        Talk.due("text(3)", t.text(3), "S(A)");
    }

    private static void takeNone() {
        Talk.sentence("27: NONE without a tree");
        Talk t = Talk.told(ADD, "a(x,y)");
        Talk.due("take()", t.x.take(), NONE);
        Talk.due("text(2)", t.text(2), ADD);
        Talk.due("text(3)", t.text(3), "a(x,y)");
        t.x.drive();
        Talk.due("take()", t.x.take(), 2);
        Talk.due("take() again", t.x.take(), NONE);
        Talk.due("text(3)", t.text(3), "a0(x,y)");
        t.x.drive();
        t.goal("a0(y,x)");
        Talk.due("take()", t.x.take(), NONE);
        Talk.due("text(3)", t.text(3), "a0(y,x)");
    }

    private static void takenStays() {
        Talk.sentence("27: driven again: the PROGRAM stays, and has the RESIDUE beside it");
        Talk t = Talk.told(GROWN, "c(y)");
        t.x.drive();
        String first = t.text(0);
        Talk.due("take()", t.x.take(), 2);
        t.goal("a0(S(S(Z)),x)");
        Talk.due("drive()", t.x.drive(), 6);
        Talk.due("the RESIDUE", t.x.text(0), 0);
        Talk.due("the PROGRAM", t.text(2), first);
        t.goal("C(a0(x,y),a0(x,y))");
        t.x.drive();
        Talk.due("the RESIDUE", t.x.text(0), 2 * first.length());
        Talk.due("the PROGRAM", t.text(2), first);
        Talk.due("take()", t.x.take(), 4);
        t.x.drive();
        // a FAULT leaves it as well
        t.program("a0()=A;?");
        Talk.due("the PROGRAM", t.text(2), first + first.replace("a0", "a1"));
        Talk.due("the RESIDUE", t.x.text(0), 2 * first.length());
    }

    private static void savedBoth() {
        Talk.sentence("28: By how many STEPS less THE NEW GOAL's RUN ends than the GOAL's, both DONE, or both STUCK");
        Talk t = Talk.told(APPEND, "a(a(x,y),z)");
        t.x.drive();
        Talk.due("both STUCK at first", t.x.saved(), 0);
        t.bind("x=C(A,C(A,N));y=C(B,N);z=C(D,N)");
        t.dueRun(0, 0, 7, 9, 13);
        Talk.due("run(1, 1)", t.x.run(1, 1), 5);
        Talk.due("both DONE", t.x.saved(), 2);
        t.bind("x=C(A,N)");
        // a(a(C(A,N),y),z): 2 STEPS, then 1: a(C(A,a(N,y)),z), C(A,a(a(N,y),z)), C(A,a(y,z))
        Talk.due("run(0, 0)", t.x.run(0, 0), 1);
        Talk.due("both STUCK", t.x.saved(), t.x.run(0, 1) - t.x.run(1, 1));
        Talk.due("both STUCK", t.x.saved(), 1);
        t = Talk.told("f(x)=g(x);g(x)=C(x,!);", "f(A)");
        t.x.drive();
        Talk.due("both STUCK", t.x.saved(), 2);
    }

    private static void savedNotSo() {
        Talk.sentence("28: -1000: not so");
        // both 200 STEPS
        Talk t = Talk.told("f(x)=f(x);", "f(Z)");
        t.x.drive();
        Talk.due("run(0, 0)", t.x.run(0, 0) * 10 + t.x.run(1, 0), 22);
        Talk.due("saved()", t.x.saved(), -1000);
        // both too large
        t = Talk.told("f(x)=f(S(x));", "f(Z)");
        t.x.drive();
        Talk.due("run(0, 0)", t.x.run(0, 0) * 10 + t.x.run(1, 0), 33);
        Talk.due("saved()", t.x.saved(), -1000);
        // DONE, too large
        String thirty = "C(" + Talk.nested("S(", 9, "A", ")") + "," + Talk.nested("S(", 9, "A", ")") + ","
                + Talk.nested("S(", 8, "A", ")") + ")";
        String program = "d(Z,x)=N;d(S(y),x)=C(x,d(y,x));f(C(x,y,z))=A;";
        t = Talk.told(program, "d(S(S(S(S(Z)))),f(x))");
        t.bind("x=" + thirty);
        t.x.drive();
        Talk.due("run(0, 0)", t.x.run(0, 0) * 10 + t.x.run(1, 0), 3);
        Talk.due("saved()", t.x.saved(), -1000);
        // too large, DONE
        t = Talk.told("e(x)=D(x,x,x,x);f(D(x,y,z,t))=t;", "f(e(x))");
        t.bind("x=" + thirty);
        t.x.drive();
        Talk.due("run(0, 0)", t.x.run(0, 0) * 10 + t.x.run(1, 0), 30);
        Talk.due("saved()", t.x.saved(), -1000);
        // STUCK, too large
        t = Talk.told(program, "C(d(S(S(S(S(Z)))),f(x)),!)");
        t.bind("x=" + thirty);
        t.x.drive();
        Talk.due("run(0, 0)", t.x.run(0, 0) * 10 + t.x.run(1, 0), 13);
        Talk.due("saved()", t.x.saved(), -1000);
    }

    private static void savedNoTree() {
        Talk.sentence("28: -1001: no tree");
        Talk t = Talk.told(ADD, "a(Z,Z)");
        Talk.due("saved()", t.x.saved(), -1001);
        t.x.drive();
        Talk.due("saved()", t.x.saved(), 1);
        t.goal("a(Z,Z)");
        Talk.due("saved()", t.x.saved(), -1001);
        t.x.drive();
        t.x.take();
        Talk.due("saved()", t.x.saved(), -1001);
    }

    private static void deepestOfEach() {
        Talk.sentence("29: of the latest run(), result(), runOf(), saved() (of the latter in the second one)");
        Talk t = Talk.told(ADD, "S(S(a(S(Z),x)))");
        t.expression(0, "a(a(a(Z,Z),Z),Z)");
        t.bind("x=Z");
        t.x.run(0, 1);
        Talk.due("of run", t.x.deepest(), 4);
        t.x.runOf(0, 0);
        Talk.due("of runOf", t.x.deepest(), 3);
        t.x.result(0);
        Talk.due("of result", t.x.deepest(), 4);
        // the others are none
        t.x.step(0, 1);
        t.x.drive();
        t.x.write(0);
        Talk.due("of result still", t.x.deepest(), 4);
        t.expression(1, "S(S(S(S(a(Z,Z)))))");
        Talk.due("step(1, 1)", t.x.step(1, 1), 1);
        Talk.due("of result still, behind a STEP of step() that lay deeper", t.x.deepest(), 4);
        t.x.saved();
        Talk.due("of the second one, without a STEP", t.x.deepest(), 0);
        t = Talk.told(APPEND, "S(a(a(x,y),z))");
        t.bind("x=N;y=C(A,N);z=N");
        t.x.drive();
        t.x.run(0, 0);
        Talk.due("of run(0, 0)", t.x.deepest(), 3);
        t.x.run(1, 0);
        // S(a0(x,y,z)), S(a1(y,z)), S(C(A,a1(N,z)))
        Talk.due("of run(1, 0)", t.x.deepest(), 3);
        t.goal("a(a(x,y),z)");
        t.bind("x=N;y=N;z=N");
        t.x.drive();
        t.x.run(0, 0);
        Talk.due("of run(0, 0)", t.x.deepest(), 2);
        t.x.saved();
        Talk.due("of saved", t.x.deepest(), 1);
        t.x.result(0);
        Talk.due("of result(0)", t.x.deepest(), 2);
        t.x.result(1);
        Talk.due("of result(1)", t.x.deepest(), 1);
    }

    private static void deepestWithout() {
        Talk.sentence("29: 0 without, ahead of any");
        Talk t = new Talk();
        Talk.due("ahead of any", t.x.deepest(), 0);
        t.program(ADD);
        t.goal("S(a(Z,Z))");
        t.x.drive();
        Talk.due("ahead of any still", t.x.deepest(), 0);
        t.x.run(0, 0);
        Talk.due("of a STEP", t.x.deepest(), 2);
        t.x.run(1, 0);
        Talk.due("DONE without a STEP", t.x.deepest(), 0);
        t.x.run(0, 0);
        t.expression(0, "S(a(x,a(Z,Z)))");
        t.x.runOf(0, 0);
        Talk.due("STUCK without a STEP", t.x.deepest(), 0);
        t.x.run(0, 3);
        t.x.saved();
        Talk.due("saved() without a STEP", t.x.deepest(), 0);
    }

    private static void deepestOfNone() {
        Talk.sentence("29: of the latest RUN: a call that answers NONE, or -1001, has none (as NOTES.md reads it)");
        Talk t = Talk.told(ADD, "S(a(Z,Z))");
        t.expression(0, "a(Z,Z)");
        t.x.run(0, 0);
        for (int n : others(4)) {
            t.x.run(n, 0);
            t.x.result(n);
            t.x.runOf(n, 0);
            t.x.runOf(0, n);
            Talk.due("deepest()", t.x.deepest(), 2);
        }
        t.x.runOf(0, 0);
        Talk.due("deepest()", t.x.deepest(), 1);
        for (int n : others(4)) {
            t.x.run(0, n);
            t.x.run(1, 0);
            t.x.saved();
            Talk.due("deepest()", t.x.deepest(), 1);
        }
    }
}
