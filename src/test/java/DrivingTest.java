/** Promises 20 to 25, 27 and 28: trees, what comes of them, and where driving breaks off. */
public final class DrivingTest {
    private static final int NONE = -1;
    private static final String APPEND = "a(N,x)=x;a(C(x,y),z)=C(x,a(y,z));";

    public static void main(String[] args) {
        append();
        accumulator();
        instanceOfAbove();
        conAndStuck();
        splitWherever();
        namelessTree();
        ranks();
        manyLooked();
        manyMade();
        tooLarge();
        manyArguments();
        manyClauses();
        largeComing();
        noTree();
        take();
        saved();
        exampleOfReadme();
        Talk.finish("DrivingTest");
    }

    /** Drives, and compares all that node(k, 0 .. 8) and writeNode(k) answer. */
    private static void dueTree(Talk t, int[][] nodes, String[] texts) {
        Talk.due("drive()", t.x.drive(), nodes.length);
        for (int k = 0; k < nodes.length; k++) {
            for (int what = 0; what < 9; what++) {
                Talk.due("node(" + k + ", " + what + ")", t.x.node(k, what), nodes[k][what]);
            }
            Talk.due("writeNode(" + k + ")", t.x.writeNode(k), texts[k].length());
            Talk.due("writeNode(" + k + ")", t.written(), texts[k]);
            Talk.due("node", t.x.node(k, 9), -2);
            Talk.due("node", t.x.node(k, -1), -2);
        }
        Talk.due("node", t.x.node(nodes.length, 0), -2);
        Talk.due("node", t.x.node(-1, 0), -2);
        Talk.due("writeNode", t.x.writeNode(nodes.length), NONE);
        Talk.due("writeNode", t.x.writeNode(-1), NONE);
    }

    private static void dueResidue(Talk t, int[] tree, String residue, String goal) {
        for (int what = 0; what < tree.length; what++) {
            Talk.due("tree(" + what + ")", t.x.tree(what), tree[what]);
        }
        Talk.due("tree(11)", t.x.tree(11), NONE);
        Talk.due("tree(-1)", t.x.tree(-1), NONE);
        Talk.due("the residue", t.text(0), residue);
        Talk.due("the new goal", t.text(1), goal);
        Talk.due("text(4)", t.x.text(4), NONE);
        Talk.due("text(-1)", t.x.text(-1), NONE);
    }

    private static void append() {
        Talk t = Talk.told(APPEND, "a(a(x,y),z)");
        int[][] nodes = {
            {3, -1, -1, 0, 5, 3, 2, -1, 0},
            {3, 0, 0, 1, 3, 2, 2, -1, 1},
            {0, 1, 0, 2, 1, 1, 0, -1, -1},
            {1, 1, 1, 2, 5, 3, 2, -1, -1},
            {0, 3, 0, 3, 1, 1, 0, -1, -1},
            {4, 3, 1, 3, 3, 2, 0, 1, -1},
            {2, 0, 1, 1, 7, 4, 1, -1, -1},
            {1, 6, 0, 2, 7, 4, 2, -1, -1},
            {0, 7, 0, 3, 1, 1, 0, -1, -1},
            {4, 7, 1, 3, 5, 3, 0, 0, -1},
        };
        String[] texts = {"a(a(m0,m1),m2)", "a(m0,m1)", "m0", "C(m0,a(m1,m2))", "m0", "a(m0,m1)",
            "a(C(m0,a(m1,m2)),m3)", "C(m0,a(a(m1,m2),m3))", "m0", "a(a(m0,m1),m2)"};
        dueTree(t, nodes, texts);
        dueResidue(t, new int[] {10, 10, 2, 2, 0, 0, 7, 3, 2, 4, 4},
                "a0(N,m0,m1)=a1(m0,m1);a0(C(m0,m1),m2,m3)=C(m0,a0(m1,m2,m3));"
                + "a1(N,m0)=m0;a1(C(m0,m1),m2)=C(m0,a1(m1,m2));", "a0(x,y,z)");
        t = Talk.told(APPEND, "a(a(z9,x),m3)");
        Talk.due("drive()", t.x.drive(), 10);
        Talk.due("VARS as in the GOAL", t.text(1), "a0(z9,x,m3)");
        // a VAR that stands twice is split in both places: then it grows, and is told apart
        t.goal("a(a(z9,x),z9)");
        Talk.due("drive()", t.x.drive(), 14);
        Talk.due("VARS as in the GOAL", t.text(1), "a0(z9,x,z9)");
    }

    private static void accumulator() {
        Talk t = Talk.told("b(Z,x)=x;b(S(x),y)=b(x,S(y));c(x)=b(x,x);", "c(y)");
        int[][] nodes = {
            {2, -1, -1, 0, 2, 1, 1, -1, -1},
            {5, 0, 0, 1, 3, 1, 3, -1, -1},
            {3, 1, 0, 2, 3, 2, 2, -1, 0},
            {0, 2, 0, 3, 1, 1, 0, -1, -1},
            {5, 2, 1, 3, 4, 2, 3, -1, -1},
            {4, 4, 0, 4, 3, 2, 0, 2, -1},
            {0, 4, 1, 4, 1, 1, 0, -1, -1},
            {1, 4, 2, 4, 2, 1, 1, -1, -1},
            {0, 7, 0, 5, 1, 1, 0, -1, -1},
            {0, 1, 1, 2, 1, 1, 0, -1, -1},
            {0, 1, 2, 2, 1, 1, 0, -1, -1},
        };
        String[] texts = {"c(m0)", "b(m0,m0)", "b(m0,m1)", "m0", "b(m0,S(m1))", "b(m0,m1)", "m0",
            "S(m0)", "m0", "m0", "m0"};
        dueTree(t, nodes, texts);
        // two that are gone were LOOKED at
        dueResidue(t, new int[] {11, 13, 1, 1, 2, 1, 4, 5, 1, 2, 3},
                "a0(Z,m0)=m0;a0(S(m0),m1)=a0(m0,S(m1));", "a0(y,y)");
    }

    private static void instanceOfAbove() {
        Talk t = Talk.told("i(x)=i(S(x));", "i(t)");
        int[][] nodes = {
            {2, -1, -1, 0, 2, 1, 1, -1, 0},
            {5, 0, 0, 1, 3, 1, 2, -1, -1},
            {4, 1, 0, 2, 2, 1, 0, 0, -1},
            {1, 1, 1, 2, 2, 1, 1, -1, -1},
            {0, 3, 0, 3, 1, 1, 0, -1, -1},
        };
        dueTree(t, nodes, new String[] {"i(m0)", "i(S(m0))", "i(m0)", "S(m0)", "m0"});
        dueResidue(t, new int[] {5, 5, 1, 0, 1, 0, 3, 3, 1, 1, 2}, "a0(m0)=a0(S(m0));", "a0(t)");
        t = Talk.told("h(x,y)=h(y,x);", "h(x,y)");
        Talk.due("a RENAMING", t.x.drive(), 2);
        Talk.due("its VARS in place", t.text(0), "a0(m0,m1)=a0(m1,m0);");
    }

    private static void conAndStuck() {
        Talk t = Talk.told("k(x)=k(k(x));a(Z)=Z;a(S(x))=a(a(x));", "C(k(A),a(x),!,b())");
        int[][] nodes = {
            {1, -1, -1, 0, 7, 1, 4, -1, -1},
            {5, 0, 0, 1, 2, 0, 2, -1, -1},
            {2, 1, 0, 2, 2, 1, 1, -1, 0},
            {5, 2, 0, 3, 3, 1, 2, -1, -1},
            {4, 3, 0, 4, 2, 1, 0, 2, -1},
            {4, 3, 1, 4, 2, 1, 0, 2, -1},
            {1, 1, 1, 2, 1, 0, 0, -1, -1},
            {3, 0, 1, 1, 2, 1, 2, -1, 1},
            {1, 7, 0, 2, 1, 0, 0, -1, -1},
            {5, 7, 1, 2, 3, 1, 2, -1, -1},
            {4, 9, 0, 3, 2, 1, 0, 7, -1},
            {4, 9, 1, 3, 2, 1, 0, 7, -1},
            {6, 0, 2, 1, 1, 0, 0, -1, -1},
            {6, 0, 3, 1, 1, 0, 0, -1, -1},
        };
        String[] texts = {"C(k(A),a(m0),!,b())", "k(A)", "k(m0)", "k(k(m0))", "k(m0)", "k(m0)", "A", "a(m0)",
            "Z", "a(a(m0))", "a(m0)", "a(m0)", "!", "b()"};
        dueTree(t, nodes, texts);
        dueResidue(t, new int[] {14, 15, 4, 1, 3, 1, 7, 4, 2, 3, 7},
                "a0(m0)=a0(a0(m0));a1(Z)=Z;a1(S(m0))=a1(a1(m0));", "C(a0(A),a1(x),!,!)");
        // !, no CASE, not told: nothing below
        for (String goal : new String[] {"a(!)", "a(B)", "a(S)", "a(c())", "d(x)", "a(a(!))"}) {
            t = Talk.told("a(Z)=Z;a(S(x))=a(x);", goal);
            int size = goal.equals("a(a(!))") ? 3 : 2;
            int vars = goal.equals("d(x)") ? 1 : 0;
            dueTree(t, new int[][] {{6, -1, -1, 0, size, vars, 0, -1, -1}}, new String[] {goal.replace("x", "m0")});
            Talk.due("the new goal", t.text(1), "!");
        }
    }

    private static void splitWherever() {
        // the VAR stands in three places; CASES in the order told; a VAR that is gone below
        Talk t = Talk.told("e(T,x,y)=x;e(P(x,y),z,t)=C(x,y,z,t);e(F,x,y)=y;", "e(x,S(x),y)");
        int[][] nodes = {
            {3, -1, -1, 0, 5, 2, 3, -1, 0},
            {1, 0, 0, 1, 2, 0, 1, -1, -1},
            {1, 1, 0, 2, 1, 0, 0, -1, -1},
            {1, 0, 1, 1, 8, 3, 4, -1, -1},
            {0, 3, 0, 2, 1, 1, 0, -1, -1},
            {0, 3, 1, 2, 1, 1, 0, -1, -1},
            {1, 3, 2, 2, 4, 2, 1, -1, -1},
            {1, 6, 0, 3, 3, 2, 2, -1, -1},
            {0, 7, 0, 4, 1, 1, 0, -1, -1},
            {0, 7, 1, 4, 1, 1, 0, -1, -1},
            {0, 3, 3, 2, 1, 1, 0, -1, -1},
            {0, 0, 2, 1, 1, 1, 0, -1, -1},
        };
        dueTree(t, nodes, new String[] {"e(m0,S(m0),m1)", "S(T)", "T", "C(m0,m1,S(P(m0,m1)),m2)", "m0", "m0",
            "S(P(m0,m1))", "P(m0,m1)", "m0", "m0", "m0", "m0"});
        dueResidue(t, new int[] {12, 12, 0, 1, 0, 0, 8, 4, 1, 3, 3},
                "a0(T,m0)=S(T);a0(P(m0,m1),m2)=C(m0,m1,S(P(m0,m1)),m2);a0(F,m0)=m0;", "a0(x,y)");
        // the VAR that BLOCKED comes first; the FOLDED one's own VARS stand for those
        t = Talk.told("g(x,y)=f(y,x);f(Z,x)=x;f(S(x),y)=C(x,y,f(x,y));", "S(g(x,y))");
        t.x.drive();
        Talk.due("the residue", t.text(0), "a0(Z,m0)=m0;a0(S(m0),m1)=C(m0,m1,a0(m0,m1));");
        Talk.due("the new goal", t.text(1), "S(a0(y,x))");
    }

    private static void namelessTree() {
        // LET: a VAR that stands twice, and one that is gone in what comes of the first one
        Talk t = Talk.told("b(Z,x,y)=x;b(S(z),x,y)=b(z,C(x,x),D(y));", "b(x,A,B)");
        t.x.drive();
        Talk.due("tree(5)", t.x.tree(5), 1);
        Talk.due("the residue", t.text(0), "a0(Z,m0,m1)=m0;a0(S(m0),m1,m2)=a0(m0,C(m1,m1),D(m2));");
        Talk.due("the new goal", t.text(1), "a0(x,A,B)");
        t = new Talk();
        Talk.due("! alone", t.x.drive(), 1);
        dueResidue(t, new int[] {1, 1, 0, 0, 0, 0, 1, 0, 0, 0, 1}, "", "!");
        t.goal("x7");
        dueTree(t, new int[][] {{0, -1, -1, 0, 1, 1, 0, -1, -1}}, new String[] {"m0"});
        dueResidue(t, new int[] {1, 1, 0, 0, 0, 0, 1, 0, 0, 0, 1}, "", "x7");
        t.bind("x7=A");
        Talk.due("bound ones are not asked", t.x.drive(), 1);
        Talk.due("the new goal", t.text(1), "x7");
        Talk.due("but by its RUN", t.result(1), "A");
    }

    private static void dueRanks(Talk t, int what, int... numbers) {
        for (int place = 0; place < numbers.length; place++) {
            Talk.due("ranked(" + place + ", " + what + ")", t.x.ranked(place, what), numbers[place]);
        }
        Talk.due("ranked", t.x.ranked(numbers.length, what), NONE);
        Talk.due("ranked", t.x.ranked(-1, what), NONE);
    }

    private static void ranks() {
        Talk t = Talk.told(APPEND, "a(a(x,y),z)");
        Talk.due("ranked", t.x.ranked(0, 0), NONE);
        t.x.drive();
        dueRanks(t, 0, 6, 7, 0, 3, 9, 1, 5, 2, 4, 8);
        dueRanks(t, 1, 4, 5, 8, 9, 2, 3, 7, 1, 6, 0);
        dueRanks(t, 2, 6, 7, 0, 3, 9, 1, 5, 2, 4, 8);
        Talk.due("ranked", t.x.ranked(0, 3), NONE);
        Talk.due("ranked", t.x.ranked(0, -1), NONE);
    }

    /** A goal that comes to an end in 73 STEPS, and so many more. */
    private static Talk countDown(int more, String end) {
        StringBuilder program = new StringBuilder(
                "b(T(x))=c1(x);c1(x)=c2(x);c2(x)=c3(x);c3(x)=b(x);b(Z)=d1();");
        for (int i = 1; i < more; i++) {
            program.append("d").append(i).append("()=d").append(i + 1).append("();");
        }
        program.append("d").append(more).append("()=").append(end).append(";e(x)=C(x,x,x,x);");
        return Talk.told(program.toString(), "b(" + Talk.nested("T(", 18, "Z", ")") + ")");
    }

    private static void dueNoTree(Talk t, int code) {
        Talk.due("drive()", t.x.drive(), code);
        Talk.due("tree(0)", t.x.tree(0), NONE);
        Talk.due("node(0, 0)", t.x.node(0, 0), -2);
        Talk.due("text(0)", t.x.text(0), NONE);
        Talk.due("text(1)", t.x.text(1), NONE);
        Talk.due("run(1, 0)", t.x.run(1, 0), NONE);
        Talk.due("saved()", t.x.saved(), -1001);
        Talk.due("take()", t.x.take(), NONE);
    }

    private static void manyLooked() {
        Talk t = countDown(6, "A");
        Talk.due("80 LOOKED at", t.x.drive(), 80);
        Talk.due("tree(1)", t.x.tree(1), 80);
        Talk.due("tree(7)", t.x.tree(7), 79);
        dueNoTree(countDown(7, "A"), -2);
        String eleven = Talk.nested("S(", 9, "A", ")");
        // what the 80th makes is too large, or what the 81st would make
        dueNoTree(countDown(6, "e(" + eleven + ")"), -3);
        dueNoTree(countDown(7, "e(" + eleven + ")"), -2);
    }

    /** 92 NODES and so many more are made by CONS with others beside, then by calls. */
    private static Talk wide(int last, String call) {
        StringBuilder right = new StringBuilder(call);
        right.insert(0, "D(").append(",Z".repeat(last - 1)).append(')');
        for (int i = 0; i < 6; i++) {
            right.insert(0, "D(").append(",Z,Z,Z)");
        }
        String eleven = Talk.nested("S(", 9, "A", ")");
        String program = "b(T(x))=C(b(x),Z,Z,Z);b(Z)=" + right + ";f()=g();g()=e(" + eleven + ");e(x)=C(x,x,x,x);";
        return Talk.told(program, "b(" + Talk.nested("T(", 18, "Z", ")") + ")");
    }

    private static void manyMade() {
        // 116 and the last CON's arguments; then f, g's and e's calls; e's STEP has SIZE 41
        dueNoTree(wide(2, "f()"), -3);
        dueNoTree(wide(3, "f()"), -2);
        dueNoTree(wide(4, "f()"), -2);
        dueNoTree(wide(4, "e(" + Talk.nested("S(", 9, "A", ")") + ")"), -3);
    }

    private static void tooLarge() {
        String ten = Talk.nested("S(", 9, "A", ")");
        Talk t = Talk.told("e(x)=C(x,x,x,S(x));f(x)=C(x,x,x,x);g(x)=C(C(x,x,x,x));", "e(" + ten + ")");
        dueNoTree(t, -3);
        t.goal("f(" + ten + ")");
        dueNoTree(t, -3);
        t.goal("f(" + Talk.nested("S(", 8, "A", ")") + ")");
        Talk.due("SIZE 37", t.x.drive(), 38);
        // one that stood stays no longer
        t.goal("A");
        Talk.due("drive()", t.x.drive(), 1);
        t.goal("e(" + ten + ")");
        dueNoTree(t, -3);
        // NODE 0 is asked, too: what comes of 5 calls with 8 VARS
        t = Talk.told("d(Z,x)=Z;d(S(y),x)=C(x,d(y,x));f(Z,m,n,o,p,q,r,s)=Z;", "d(S(S(S(S(S(Z))))),f(x,y,z,t,u,v,w,m))");
        Talk.due("drive()", t.x.drive() > 0 ? 1 : 0, 1);
        Talk.due("tree(10)", t.x.tree(10), 51);
        Talk.due("take()", t.x.take(), 5);
        Talk.due("is(3)", t.x.is(3), 51);
        dueNoTree(t, -3);
    }

    private static void manyArguments() {
        Talk t = Talk.told("f(Z,x)=x;f(S(y),x)=f(y,x);b(x,y)=y;", "f(m,C(D(n,o,p,q),D(r,s,t)))");
        Talk.due("8 arguments", t.x.drive() > 0 ? 1 : 0, 1);
        Talk.due("the new goal", t.text(1), "a0(m,n,o,p,q,r,s,t)");
        t.goal("f(m,C(D(n,o,p,q),D(r,s,t,u)))");
        dueNoTree(t, -4);
        t.goal("b(m,C(D(n,o,p,q),D(r,s,t,u)))");
        Talk.due("9 VARS, no function", t.x.drive() > 0 ? 1 : 0, 1);
    }

    private static String cases(int count) {
        StringBuilder out = new StringBuilder();
        for (int i = 0; i < count; i++) {
            out.append("g(").append((char) ('A' + i)).append(",x)=A;");
        }
        return out.toString();
    }

    private static void manyClauses() {
        Talk t = Talk.told(cases(20), "C(g(x,Z),g(y,z))");
        Talk.due("40 CLAUSES", t.x.drive(), 43);
        Talk.due("tree(9)", t.x.tree(9), 40);
        t = Talk.told(cases(21), "C(g(x,Z),g(y,z))");
        dueNoTree(t, -5);
        dueNoTree(Talk.told(cases(20) + "i()=i();", "C(g(x,Z),g(y,z),i())"), -5);
        // both: arguments are asked ahead of CLAUSES
        t.goal("C(g(x,Z),g(y,C(D(n,o,p,q),D(r,s,t,u))))");
        dueNoTree(t, -4);
    }

    private static Talk repeated(int times, int cases, String call) {
        StringBuilder program = new StringBuilder("d(Z,x)=Z;d(S(y),x)=C(x,d(y,x));");
        for (int i = 0; i < cases; i++) {
            program.append("f(").append((char) ('A' + i)).append(",m,n,o,p,q,r,s)=Z;");
        }
        return Talk.told(program.toString(), "d(" + Talk.nested("S(", times, "Z", ")") + "," + call + ")");
    }

    private static void largeComing() {
        String eight = "f(x,y,z,t,u,v,w,m)";
        Talk t = repeated(11, 1, "f(x,y,z,t,u,v,w,w)");
        Talk.due("SIZE 100", t.x.drive(), 46);
        Talk.due("tree(10)", t.x.tree(10), 100);
        Talk.due("text(1)", t.text(1).length(), 11 * "C(a0(x,y,z,t,u,v,w),)".length() + 2);
        dueNoTree(repeated(10, 1, eight), -6);
        // both: CLAUSES are asked ahead of SIZES
        dueNoTree(repeated(11, 3, eight), -6);
        dueNoTree(repeated(11, 4, eight), -5);
    }

    private static void noTree() {
        Talk t = Talk.told(APPEND, "a(x,y)");
        Talk.due("tree(0)", t.x.tree(0), NONE);
        Talk.due("text(0)", t.x.text(0), NONE);
        Talk.due("text(1)", t.x.text(1), NONE);
        Talk.due("writeNode(0)", t.x.writeNode(0), NONE);
        Talk.due("node(0, 0)", t.x.node(0, 0), -2);
        t.x.drive();
        Talk.due("drive() again", t.x.drive(), 5);
        Talk.due("tree(1)", t.x.tree(1), 5);
        t.program(APPEND);
        Talk.due("behind program()", t.x.tree(0), NONE);
        t.x.drive();
        t.goal("a(x,y)");
        Talk.due("behind goal()", t.x.tree(0), NONE);
        t.x.drive();
        t.program("a(");
        t.goal("a(");
        t.bind("x=N");
        t.expression(0, "A");
        Talk.due("all stays", t.x.tree(0), 5);
        t.dueRun(1, 0, 1, 1, 3);
    }

    private static void take() {
        Talk t = Talk.told(APPEND, "a(a(x,y),z)");
        Talk.due("take()", t.x.take(), NONE);
        t.x.drive();
        String residue = t.text(0);
        t.expression(1, "a1(C(A,N),C(B,N))");
        Talk.due("not told yet", t.x.runOf(1, 0), 1);
        Talk.due("take()", t.x.take(), 4);
        Talk.due("no tree", t.x.tree(0), NONE);
        Talk.due("take() again", t.x.take(), NONE);
        Talk.due("the program", t.text(2), residue);
        Talk.due("the goal", t.text(3), "a0(x,y,z)");
        Talk.due("is(2)", t.x.is(2), 0);
        Talk.due("told now", t.x.runOf(1, 1), 2);
        t.bind("x=C(A,N);y=C(B,N);z=N");
        Talk.due("result", t.result(0), "C(A,C(B,N))");
        Talk.due("driven again", t.x.drive(), 9);
        Talk.due("the new residue", t.text(0), residue);
        Talk.due("the new goal", t.text(1), "a0(x,y,z)");
        // what was taken stays when another is driven
        t = Talk.told("a()=B;", "a()");
        t.x.drive();
        t.x.take();
        Talk.due("no clauses", t.text(2), "");
        Talk.due("the goal", t.text(3), "B");
    }

    private static void saved() {
        Talk t = Talk.told(APPEND, "a(a(x,y),z)");
        Talk.due("no tree", t.x.saved(), -1001);
        t.x.drive();
        Talk.due("both STUCK", t.x.saved(), 0);
        t.bind("x=C(A,C(A,N));y=C(B,N);z=C(D,N)");
        // a takes 3 and 4 STEPS; a0 takes 3, then a1 2
        Talk.due("both DONE", t.x.saved(), 2);
        t.x.run(0, 0);
        Talk.due("deepest() of the first", t.x.deepest(), 4);
        t.x.saved();
        Talk.due("deepest() of the second", t.x.deepest(), 4);
        t = Talk.told("i(x)=i(S(x));", "i(Z)");
        t.x.drive();
        Talk.due("not so", t.x.saved(), -1000);
        t = Talk.told("i(x)=i(x);", "i(Z)");
        t.x.drive();
        Talk.due("not so", t.x.saved(), -1000);
        // STUCK in one, DONE in the other: what is not asked for is taken out
        t = Talk.told("a()=B;", "S(a())");
        t.x.drive();
        Talk.due("both DONE", t.x.saved(), 1);
        Talk.due("deepest() without a STEP", t.x.deepest(), 0);
    }

    private static void exampleOfReadme() {
        Talk.sentence("the example of README.md");
        Talk t = new Talk();
        t.x.feed(0x61285A2C, 0x78293D78, 0x3B612853, 0x2878292C, 0x79293D53);
        t.x.feed(0x28612878, 0x2C792929, 0x3B000000, 0, 0);
        Talk.due("end(29)", t.x.end(29), 29);
        Talk.due("program()", t.x.program(), 2);
        t.x.feed(0x6128782C, 0x79290000, 0, 0, 0);
        Talk.due("end(6)", t.x.end(6), 6);
        Talk.due("goal()", t.x.goal(), 3);
        Talk.due("drive()", t.x.drive(), 4);
        Talk.due("text(0)", t.text(0), "a0(Z,m0)=m0;a0(S(m0),m1)=S(a0(m0,m1));");
        t.x.feed(0x783D5328, 0x5A293B79, 0x3D5A0000, 0, 0);
        Talk.due("end(10)", t.x.end(10), 10);
        Talk.due("bind()", t.x.bind(), 2);
        Talk.due("run(0, 1)", t.x.run(0, 1), 2);
        Talk.due("saved()", t.x.saved(), 0);
        Talk.due("take()", t.x.take(), 2);
    }
}
