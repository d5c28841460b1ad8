/** Promises 1 to 10: a new object, the tape, what is told, and its FAULTS. */
public final class ReadingTest {
    private static final int NONE = -1;

    public static void main(String[] args) {
        fresh();
        feed();
        end();
        programs();
        programFaults();
        limitsOfPrograms();
        goals();
        binds();
        expressions();
        faults();
        asks();
        Talk.finish("ReadingTest");
    }

    private static void fresh() {
        Talk t = new Talk();
        Talk.due("NONE", DrivenRuns.NONE, -1);
        Talk.due("text(3)", t.text(3), "!");
        Talk.due("text(2)", t.text(2), "");
        int[] is = {0, 0, 0, 1, 0, 0, 0, 0};
        for (int what = 0; what < is.length; what++) {
            Talk.due("is(" + what + ")", t.x.is(what), is[what]);
        }
        Talk.due("tree(0)", t.x.tree(0), NONE);
        Talk.due("node(0, 0)", t.x.node(0, 0), -2);
        Talk.due("saved()", t.x.saved(), -1001);
        Talk.due("take()", t.x.take(), NONE);
        Talk.due("fault()", t.x.fault(), NONE);
        Talk.due("deepest()", t.x.deepest(), 0);
        for (int i = 0; i < 4; i++) {
            Talk.due("write", t.write(i), "!");
        }
        Talk.due("octet(0) ahead of any", new Counted().octet(0), NONE);
    }

    private static void feed() {
        Counted x = new Counted();
        // S(A), then C(B,D), from the highest byte of a on
        Talk.due("feed", x.feed(0x53284129, 0, 0, 0, 0), 20);
        Talk.due("end", x.end(4), 4);
        Talk.due("goal", x.goal(), 2);
        Talk.due("feed", x.feed('C' << 24 | '(' << 16 | 'B' << 8 | '(', 'Q' << 24 | '(' << 16 | 'A' << 8 | ',',
                'D' << 24 | ',' << 16 | 'E' << 8 | ')', ')' << 24 | ')' << 16, 0), 20);
        Talk.due("end", x.end(14), 14);
        Talk.due("expression", x.expression(1), 6);
        Talk.due("write", x.write(1), 14);
        Talk.due("octet(5)", x.octet(5), '(');
        Talk.due("octet(10)", x.octet(10), 'E');
        x = new Counted();
        for (int i = 1; i <= 39; i++) {
            Talk.due("feed " + i, x.feed(-1, -1, -1, -1, -1), 20 * i);
        }
        Talk.due("end(781)", x.end(781), NONE);
        Talk.due("end(779)", x.end(779), 779);
        Talk.due("feed 40", x.feed(1, 2, 3, 4, 5), 799);
        Talk.due("feed 41", x.feed(1, 2, 3, 4, 5), NONE);
        Talk.due("is(6)", x.is(6), 799);
        x.end(781);
        Talk.due("801", x.feed(0, 0, 0, 0, 0), NONE);
        Talk.due("is(6)", x.is(6), 781);
        x.end(780);
        Talk.due("800", x.feed(0, 0, 0, 0, 0), 800);
        Talk.due("820", x.feed(0, 0, 0, 0, 0), NONE);
        Talk.due("is(6)", x.is(6), 800);
    }

    private static void end() {
        Counted x = new Counted();
        Talk.due("end(0)", x.end(0), 0);
        Talk.due("end(1)", x.end(1), NONE);
        Talk.due("end(-1)", x.end(-1), NONE);
        x.feed(0, 0, 0, 0, 0);
        Talk.due("end(-1)", x.end(-1), NONE);
        Talk.due("end(21)", x.end(21), NONE);
        Talk.due("is(6)", x.is(6), 20);
        Talk.due("end(20)", x.end(20), 20);
        Talk.due("end(7)", x.end(7), 7);
        Talk.due("is(6)", x.is(6), 7);
        Talk.due("end(8)", x.end(8), NONE);
        Talk.due("end", x.end(Integer.MIN_VALUE), NONE);
        Talk.due("end", x.end(Integer.MAX_VALUE), NONE);
    }

    private static void programs() {
        Talk t = new Talk();
        String text = "a(N,x)=x;a(C(x,y),z)=C(x,a(y,z));b10()=!;l99(m0,z99)=a(z99,B(m0));a(Z)=Z;a(Z(x))=x;a()=A;";
        Talk.due("program", t.program(text), 7);
        Talk.due("text(2)", t.text(2), text);
        Talk.due("is(6)", t.x.is(6), 0);
        t.goal("a(x,y)");
        t.x.drive();
        Talk.due("a faulty one", t.program("a("), NONE);
        Talk.due("is(6)", t.x.is(6), 0);
        Talk.due("text(2) stays", t.text(2), text);
        Talk.due("the tree stays", t.x.tree(0) > 0 ? 1 : 0, 1);
        Talk.due("an empty one", t.x.program(), 0);
        Talk.due("is(0)", t.x.is(0), 0);
        Talk.due("no tree", t.x.tree(0), NONE);
        Talk.due("no residue", t.x.text(0), NONE);
        Talk.due("the goal stays", t.text(3), "a(x,y)");
    }

    private static void programFaults() {
        Object[][] rows = {
            {"a", 1}, {"a(", 2}, {"a()", 3}, {"a()=", 4}, {"a()=A", 5}, {"a()=A;b", 7}, {"a(x", 3}, {"a(x,", 4},
            {"1", 0}, {"m(x)=x;", 0}, {"A(x)=x;", 0}, {";", 0}, {"!", 0}, {" a()=A;", 0}, {"a ()=A;", 1},
            {"a00()=A;", 2}, {"a01()=A;", 2}, {"a100()=A;", 3}, {"a(x00)=x;", 4}, {"a(x)=x00;", 5}, {"a(x0)=x00;", 8},
            {"a(x,x)=x;", 4}, {"a(C(x,x))=x;", 6}, {"a(C(x),x)=x;", 7}, {"a(x12,y,x12)=y;", 8},
            {"a(x,C)=x;", 4}, {"a(C())=A;", 4}, {"a(C(A))=A;", 4}, {"a(C(x)=A;", 6}, {"a(,x)=x;", 2}, {"a(x,)=x;", 4},
            {"a(C(x,y,z,t,u))=x;", 11}, {"a(m,n,o,p,q,r,s,t,u)=m;", 17}, {"a(A,n,o,p,q,r,s,t,u)=m;", 17},
            {"a(!)=A;", 2}, {"a(b())=A;", 2}, {"a(x)x;", 4}, {"a(x)=;", 5}, {"a(x)==x;", 5}, {"a(x)=x,", 6},
            {"a(x)=y;", 5}, {"a(x)=C(x,y);", 9}, {"a(C(x))=y1;", 8}, {"a(x1)=x;", 6}, {"a(x)=x1;", 5},
            {"a()=A;a()=B;", 6}, {"a(Z)=A;a(x)=B;", 7}, {"a(x)=x;a(Z)=Z;", 7}, {"a(Z)=A;a(Z)=B;", 7},
            {"a(Z(x))=A;b()=A;a(Z)=A;a(Z(y))=B;", 23}, {"a()=A;a(x,x)=B;", 10}, {"a()=A;a1()=B;a1()=C;", 13},
            {"a()=b;", 5}, {"a()=b(;", 6}, {"a()=C(;", 6}, {"a()=C();", 6}, {"a()=C(A;", 7}, {"a()=C(A,B,D,E,F);", 13},
            {"a()=b(A,A,A,A,A,A,A,A,A);", 21}, {"a()=A)", 5}, {"a()=b()();", 7}, {"a()=!(A);", 5}, {"a()=A;\u00e9", 6},
        };
        for (Object[] row : rows) {
            Talk t = new Talk();
            t.dueFault("program " + row[0], t.program((String) row[0]), (Integer) row[1]);
            Talk.due("is(0)", t.x.is(0), 0);
        }
        Object[][] well = {
            {"a(m,n,o,p,q,r,s,t)=m;", 1}, {"a(A(m,n,o,p),q,r,s,t,u,v,w)=m;", 1}, {"a()=b(A,A,A,A,A,A,A,A);", 1},
            {"a()=C(A,B,D,E);", 1}, {"a(Z)=A;a(Z(x))=x;a(Z,x)=x;a()=A;a0()=A;a10()=A;", 6}, {"a(z0,z)=z0;", 1},
            {"a(x)=x;a(Z,x)=x;a(S,x)=S(x,S(x));", 3}, {"a(x)=a(!);", 1}, {"l99(z99)=z99;", 1},
        };
        for (Object[] row : well) {
            Talk t = new Talk();
            Talk.due("program " + row[0], t.program((String) row[0]), (Integer) row[1]);
            Talk.due("fault()", t.x.fault(), NONE);
            Talk.due("text(2)", t.text(2), (String) row[0]);
        }
    }

    private static void limitsOfPrograms() {
        StringBuilder forty = new StringBuilder();
        for (int i = 0; i < 40; i++) {
            forty.append('a').append(i).append("()=A;");
        }
        Talk t = new Talk();
        Talk.due("40 CLAUSES", t.program(forty.toString()), 40);
        t.dueFault("41 CLAUSES", t.program(forty + "b()=A;"), forty.length());
        t.dueFault("another byte", t.program(forty + "?"), forty.length());
        // C(A,A,A,A) has SIZE 5: 7 of them below two CONS have 40 with three more
        String part = "C(A,A,A,A)";
        String right = "D(D(" + part + "," + part + "," + part + "," + part + "),D(" + part + "," + part + "," + part + "),A";
        Talk.due("SIZE 39", t.program("a()=" + right + ");"), 1);
        Talk.due("clause(0, 0)", t.x.clause(0, 0), 39);
        Talk.due("SIZE 40", t.program("a()=" + right + ",A);"), 1);
        Talk.due("clause(0, 0)", t.x.clause(0, 0), 40);
        String large = "a()=" + right + ",S(A));";
        t.dueFault("SIZE 41", t.program(large), large.length() - 4);
        String begins = "a()=" + right + ",S(";
        t.dueFault("SIZE 41 begins", t.program(begins), begins.length());
        t.dueFault("SIZE 41, not told", t.program("a()=" + right + ",S(x));"), begins.length());
        Talk.due("19 (", t.program("a()=" + Talk.nested("S(", 19, "A", ")") + ";"), 1);
        String deep = "a()=" + Talk.nested("S(", 20, "A", ")") + ";";
        t.dueFault("20 (", t.program(deep), deep.indexOf('A'));
        Talk.due("20 ( without a thing", t.program("a()=" + Talk.nested("S(", 19, "b()", ")") + ";"), 1);
        Talk.due("19 ( about calls", t.program("a()=" + Talk.nested("b(", 19, "!", ")") + ";"), 1);
        String deepCalls = "a()=" + Talk.nested("b(", 20, "!", ")") + ";";
        t.dueFault("20 ( about calls", t.program(deepCalls), deepCalls.indexOf('!'));
        t.dueFault("20 (, then )", t.program("a()=" + Talk.nested("S(", 20, "", ")") + ";"), 44);
    }

    private static void goals() {
        Talk t = new Talk();
        t.program("a(Z)=Z;");
        Talk.due("goal", t.goal("a(S(x,!,b3()))"), 5);
        Talk.due("text(3)", t.text(3), "a(S(x,!,b3()))");
        Talk.due("is(6)", t.x.is(6), 0);
        t.x.drive();
        Talk.due("tree(0)", t.x.tree(0) > 0 ? 1 : 0, 1);
        t.dueFault("an empty one", t.goal(""), 0);
        Talk.due("it stays", t.text(3), "a(S(x,!,b3()))");
        Talk.due("the tree stays", t.x.tree(0) > 0 ? 1 : 0, 1);
        Talk.due("the same", t.goal("a(S(x,!,b3()))"), 5);
        Talk.due("no tree", t.x.tree(0), NONE);
        Object[][] rows = {
            {"x1y", 2}, {"x123", 3}, {"a", 1}, {"a1", 2}, {"a()x", 3}, {"A(", 2}, {"A()", 2}, {"A(x", 3}, {"A(x,", 4},
            {"A(x,)", 4}, {"A(1)", 2}, {"A1", 1}, {"!1", 1}, {"(x)", 0}, {"a(x;", 3}, {"a(x))", 4}, {"b00()", 2},
        };
        for (Object[] row : rows) {
            t.dueFault("goal " + row[0], t.goal((String) row[0]), (Integer) row[1]);
        }
        Talk.due("19 (", t.goal(Talk.nested("S(", 19, "x", ")")), 20);
        t.dueFault("20 (", t.goal(Talk.nested("S(", 20, "x", ")")), 40);
    }

    private static void binds() {
        Talk t = new Talk();
        t.goal("C(x,y,z1)");
        Talk.due("bind", t.bind("x=A;y=S(S(Z));z1=C(A,B,D,E)"), 3);
        Talk.due("is(5)", t.x.is(5), 3);
        Talk.due("result", t.result(0), "C(A,S(S(Z)),C(A,B,D,E))");
        Object[][] rows = {
            {"x=a();", 2}, {"x=!", 2}, {"x=y", 2}, {"x=S(x)", 4}, {"x=A;x=A", 4}, {"x=A;", 4}, {"x", 1}, {"x=", 2},
            {"a=A", 0}, {"x=A,y=A", 3}, {";", 0}, {"x=A;;", 4}, {"x=S(a())", 4}, {"x=S(!)", 4}, {"x1=A;x=A;x1=B", 9},
            {"x=A()", 4}, {"x==A", 2}, {"x0=A;x00=B", 7},
        };
        for (Object[] row : rows) {
            String text = (String) row[0];
            int fault = (Integer) row[1];
            // x0 is told twice, ahead of what follows it
            t.dueFault("bind " + text, t.bind(text), text.startsWith("x0") ? 5 : fault);
            Talk.due("those stay", t.x.is(5), 3);
        }
        Talk.due("another", t.bind("y=B"), 1);
        Talk.due("those ahead are bound no more", t.result(0), "C(x,B,z1)");
        t.x.drive();
        Talk.due("an empty one", t.bind(""), 0);
        Talk.due("the tree stays", t.x.tree(0), 4);
        Talk.due("is(5)", t.x.is(5), 0);
        Talk.due("none", t.result(0), "C(x,y,z1)");
        t.dueFault("20 (", t.bind("x=" + Talk.nested("S(", 20, "A", ")")), 42);
        Talk.due("full", t.bind(manyBound()), 161);
    }

    /** As many as go on a tape: 14 and 140 with short names, then 7 with long ones. */
    private static String manyBound() {
        StringBuilder out = new StringBuilder();
        for (char c = 'm'; c <= 'z'; c++) {
            out.append(c).append("=A;");
            for (int i = 0; i < 10; i++) {
                out.append(c).append(i).append("=B;");
            }
        }
        for (int i = 10; i < 17; i++) {
            out.append("z").append(i).append("=D").append(i < 16 ? ";" : "");
        }
        return out.toString();
    }

    private static void expressions() {
        Talk t = new Talk();
        for (int i = 0; i < 4; i++) {
            Talk.due("expression", t.expression(i, "C(x" + i + ",a())"), 3);
        }
        for (int i = 0; i < 4; i++) {
            Talk.due("write", t.write(i), "C(x" + i + ",a())");
        }
        t.dueFault("a faulty one", t.expression(2, "C(x"), 3);
        Talk.due("it stays", t.write(2), "C(x2,a())");
        Talk.due("is(6)", t.x.is(6), 0);
        t.x.feed(1, 1, 1, 1, 1);
        t.dueFault("no such i", t.x.expression(4), NONE);
        Talk.due("is(6)", t.x.is(6), 0);
        t.x.feed(1, 1, 1, 1, 1);
        t.dueFault("no such i", t.x.expression(-1), NONE);
        Talk.due("is(6)", t.x.is(6), 0);
        t.dueFault("an empty one", t.x.expression(0), 0);
        t.x.drive();
        Talk.due("the tree stays", t.expression(0, "x") + t.x.tree(0), 2);
    }

    private static void faults() {
        Talk t = new Talk();
        t.goal("A(");
        Talk.due("fault()", t.x.fault(), 2);
        Talk.due("again", t.x.fault(), 2);
        t.x.run(0, 0);
        Talk.due("behind another call", t.x.fault(), 2);
        t.bind("");
        Talk.due("behind a good one", t.x.fault(), NONE);
        t.program("a");
        Talk.due("fault()", t.x.fault(), 1);
        t.x.expression(9);
        Talk.due("behind no such i", t.x.fault(), NONE);
    }

    private static void asks() {
        Talk t = new Talk();
        t.program("a(N,x)=x;a(C(x,y),z)=C(x,a(y,z));b(x)=a(a(x,x),x);a(N)=N;");
        t.goal("a(x,C(y,x))");
        t.bind("x=N;y=N");
        t.x.feed(0, 0, 0, 0, 0);
        int[] is = {4, 3, 1, 5, 2, 2, 20, 12};
        for (int what = 0; what < is.length; what++) {
            Talk.due("is(" + what + ")", t.x.is(what), is[what]);
        }
        Talk.due("is(8)", t.x.is(8), NONE);
        Talk.due("is(-1)", t.x.is(-1), NONE);
        int[][] clauses = {{1, 2, 14, 0, 0}, {5, 2, 3, 2, 1}, {5, 1, 0, 0, 2}, {1, 1, 14, 0, 0}};
        for (int k = 0; k < clauses.length; k++) {
            for (int what = 0; what < 5; what++) {
                Talk.due("clause(" + k + ", " + what + ")", t.x.clause(k, what), clauses[k][what]);
            }
            Talk.due("clause", t.x.clause(k, 5), NONE);
            Talk.due("clause", t.x.clause(k, -1), NONE);
        }
        Talk.due("clause(4, 0)", t.x.clause(4, 0), NONE);
        Talk.due("clause(-1, 0)", t.x.clause(-1, 0), NONE);
    }
}
