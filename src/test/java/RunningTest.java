/** Promises 11 to 19, 26 and 29: runs, and expressions compared. */
public final class RunningTest {
    private static final int NONE = -1;
    private static final String ADD = "a(Z,x)=x;a(S(x),y)=S(a(x,y));";

    public static void main(String[] args) {
        runs();
        stuckRuns();
        endlessRuns();
        largeRuns();
        runsOfExpressions();
        deepest();
        relations();
        commonForms();
        steps();
        writes();
        ofs();
        octets();
        Talk.finish("RunningTest");
    }

    private static void runs() {
        Talk t = Talk.told(ADD, "a(S(S(Z)),S(Z))");
        t.dueRun(0, 0, 3, 4, 6);
        Talk.due("result", t.result(0), "S(S(S(Z)))");
        for (int w : new int[] {-1, 4, 99, Integer.MIN_VALUE}) {
            Talk.due("run(0, " + w + ")", t.x.run(0, w), NONE);
            Talk.due("run(" + w + ", 0)", t.x.run(w == 4 ? 2 : w, 0), NONE);
            Talk.due("result(" + w + ")", t.x.result(w == 4 ? 2 : w), NONE);
        }
        Talk.due("run(1, 0)", t.x.run(1, 0), NONE);
        Talk.due("result(1)", t.x.result(1), NONE);
        Talk.due("what was written stays", t.written(), "S(S(S(Z)))");
        Talk.due("the goal stays", t.text(3), "a(S(S(Z)),S(Z))");
        // arguments go on as they are: b's call is copied, and run twice
        t = Talk.told("b(x)=C(x,x);c()=A;", "b(c())");
        t.dueRun(0, 0, 3, 3, 3);
        // the outermost one first: what is not asked for is not run
        t = Talk.told("b(x)=A;c()=c();", "b(c())");
        t.dueRun(0, 0, 1, 1, 2);
        t = Talk.told(ADD, "C(x,a(Z,A),a(S(Z),B))");
        t.dueRun(0, 0, 3, 5, 9);
        Talk.due("result", t.result(0), "C(x,A,S(B))");
        t = Talk.told("", "C(x,A)");
        t.dueRun(0, 0, 0, 3, 3);
        t.bind("x=S(S(Z))");
        t.dueRun(0, 0, 0, 5, 5);
        // functions, CONS with unlike many arguments are unlike
        t = Talk.told("a()=A;a(x)=a(x,x);a(S,x)=x;a(S(y),x)=y;", "C(a(),a(S),a(S(B)))");
        t.dueRun(0, 0, 5, 4, 8);
        Talk.due("result", t.result(0), "C(A,S,B)");
        t.goal("a(A,B,C)");
        t.dueRun(0, 1, 0, 4, 4);
    }

    private static void stuckRuns() {
        String[] goals = {"!", "k(x)", "a(x,Z)", "a(!,Z)", "a(A,Z)", "a(S,Z)", "a(Z(Z),Z)", "a(a(x,Z),Z)",
            "k(Z)", "C(!,a(Z,Z))", "C(A,a(x,A),a(Z,Z))", "a(k(),Z)", "S(S(a(x,y)))"};
        for (String goal : goals) {
            Talk t = Talk.told(ADD, goal);
            Talk.due("run(0, 0) of " + goal, t.x.run(0, 0), 1);
            Talk.due("run(0, 1) of " + goal, t.x.run(0, 1), 0);
            Talk.due("result of " + goal, t.result(0), goal);
            Talk.due("deepest() of " + goal, t.x.deepest(), 0);
        }
        Talk t = Talk.told(ADD, "C(a(S(Z),A),a(x,B),a(Z,D))");
        t.dueRun(0, 1, 2, 9, 11);
        Talk.due("result", t.result(0), "C(S(A),a(x,B),a(Z,D))");
        // as it stands: C, S(A), a(x,B), a(Z,D) have 1 + 2 + 3 + 3
        t.bind("x=Z");
        t.dueRun(0, 0, 4, 5, 11);
    }

    private static void endlessRuns() {
        Talk t = Talk.told("a(x)=a(x);b(S(x))=b(x);c(x)=c(S(x));", "a(Z)");
        t.dueRun(0, 2, 200, 2, 2);
        t.goal("c(Z)");
        t.dueRun(0, 3, 119, 121, 121);
        t = Talk.told("b(Z)=A;b(O)=O;b(S(x))=b(x);", "b(S(S(Z)))");
        t.dueRun(0, 0, 3, 1, 4);
        // 200 STEPS that end DONE, or STUCK, are no endless ones
        t = Talk.told(chain(200, "A"), "a0()");
        t.dueRun(0, 0, 200, 1, 20);
        t = Talk.told(chain(201, "A"), "a0()");
        t.dueRun(0, 2, 200, 1, 20);
        t = Talk.told(chain(200, "!"), "a0()");
        t.dueRun(0, 1, 200, 1, 20);
    }

    /** A program that comes to an end in so many STEPS (183 at least). */
    private static String chain(int steps, String end) {
        StringBuilder out = new StringBuilder("a0()=b(");
        out.append(Talk.nested("T(", 18, "Z", ")")).append(");");
        // ten STEPS for each T
        out.append("b(T(x))=c1(x);");
        for (int i = 1; i < 9; i++) {
            out.append("c").append(i).append("(x)=c").append(i + 1).append("(x);");
        }
        out.append("c9(x)=b(x);b(Z)=d1();");
        int rest = steps - 182;
        for (int i = 1; i < rest; i++) {
            out.append("d").append(i).append("()=d").append(i + 1).append("();");
        }
        return out.append("d").append(rest).append("()=").append(end).append(";").toString();
    }

    private static void largeRuns() {
        // 4 VARS of 30 things, and one CON: 121
        Talk t = Talk.told("a(x)=C(x,x,x,x);", "C(x,y,z,t)");
        String value = "C(" + Talk.nested("S(", 9, "A", ")") + "," + Talk.nested("S(", 9, "A", ")") + ","
                + Talk.nested("S(", 8, "A", ")") + ")";
        t.bind("x=" + value + ";y=" + value + ";z=" + value + ";t=" + value);
        t.dueRun(0, 3, 0, 121, 121);
        Talk.due("result", t.result(0), "C(" + value + "," + value + "," + value + "," + value + ")");
        t.bind("x=" + value + ";y=" + value + ";z=" + value + ";t=" + value.replaceFirst("S\\(A\\)", "A"));
        t.dueRun(0, 0, 0, 120, 120);
        t.goal("a(x)");
        t.dueRun(0, 3, 1, 121, 121);
        Talk.due("result", t.x.result(0), 4 * value.length() + 6);
        t.bind("x=" + value.replaceFirst("S\\(A\\)", "A"));
        t.dueRun(0, 0, 1, 117, 117);
        // it is asked ahead of DONE, STUCK
        t.bind("x=" + value);
        t.goal("C(!,x,x,C(x,x))");
        t.dueRun(0, 3, 0, 123, 123);
        // 40 things, each of 40
        t = Talk.told("", "D(D(x,x,x,x),D(x,x,x,x),D(x,x,x,x),D(D(x,x,x,x),D(x,x,x,x),D(x,x,x,x),D(x,x,x)))");
        t.bind("x=" + forty());
        Talk.due("run(0, 2)", t.x.run(0, 2), 27 * 40 + 9);
        Talk.due("run(0, 0)", t.x.run(0, 0), 3);
        int length = t.x.result(0);
        Talk.due("its length", length, 27L * forty().length() + 9 * 3 + 26);
        Talk.due("its last byte", t.x.octet(length - 1), ')');
        Talk.due("behind it", t.x.octet(length), NONE);
    }

    private static String forty() {
        return "C(" + Talk.nested("S(", 12, "A", ")") + "," + Talk.nested("S(", 12, "A", ")") + ","
                + Talk.nested("S(", 12, "A", ")") + ")";
    }

    private static void runsOfExpressions() {
        Talk t = Talk.told(ADD, "!");
        t.expression(2, "a(S(x),a(Z,y))");
        int[] blocked = {1, 1, 6, 6};
        for (int what = 0; what < 4; what++) {
            Talk.due("runOf(2, " + what + ")", t.x.runOf(2, what), blocked[what]);
        }
        t.bind("x=S(Z);y=B");
        int[] ran = {0, 4, 3, 7};
        for (int what = 0; what < 4; what++) {
            Talk.due("runOf(2, " + what + ")", t.x.runOf(2, what), ran[what]);
        }
        Talk.due("runOf(2, 4)", t.x.runOf(2, 4), NONE);
        Talk.due("runOf(2, -1)", t.x.runOf(2, -1), NONE);
        Talk.due("runOf(4, 0)", t.x.runOf(4, 0), NONE);
        Talk.due("runOf(-1, 0)", t.x.runOf(-1, 0), NONE);
        Talk.due("it stays", t.write(2), "a(S(x),a(Z,y))");
        t.program("a(Z,x)=!;");
        Talk.due("by the program now", t.x.runOf(2, 0), 1);
    }

    private static void deepest() {
        Talk t = Talk.told(ADD, "S(S(a(a(a(Z,Z),Z),S(Z))))");
        t.dueRun(0, 0, 3, 4, 10);
        Talk.due("deepest()", t.x.deepest(), 5);
        t.expression(0, "a(S(S(Z)),Z)");
        t.x.runOf(0, 3);
        Talk.due("deepest() of runOf", t.x.deepest(), 3);
        t.x.result(0);
        Talk.due("deepest() of result", t.x.deepest(), 5);
        t.x.run(2, 0);
        t.x.step(0, 1);
        Talk.due("deepest() stays", t.x.deepest(), 5);
        t.expression(0, "C(A,B,S(a(Z,Z)))");
        t.x.runOf(0, 0);
        Talk.due("deepest()", t.x.deepest(), 3);
        t.expression(0, "C(A,C(A,A),x)");
        t.x.runOf(0, 0);
        Talk.due("deepest() without a STEP", t.x.deepest(), 0);
        t.goal("a(S(S(Z)),x)");
        t.x.drive();
        Talk.due("saved()", t.x.saved(), 3);
        Talk.due("deepest() of the second run", t.x.deepest(), 0);
        t.x.run(0, 0);
        Talk.due("deepest()", t.x.deepest(), 3);
    }

    private static void dueRelations(String one, String other, String want) {
        Talk t = new Talk();
        t.expression(1, one);
        t.expression(3, other);
        StringBuilder got = new StringBuilder();
        for (int what = 0; what < 4; what++) {
            got.append(t.x.relation(1, 3, what));
        }
        Talk.due("relations of " + one + " and " + other, got.toString(), want);
    }

    private static void relations() {
        // RENAMING, INSTANCE, EMBEDDED, COUPLED
        dueRelations("x", "y", "1111");
        dueRelations("!", "!", "1111");
        dueRelations("A", "A", "1111");
        dueRelations("A", "B", "0000");
        dueRelations("A", "x", "0100");
        dueRelations("x", "A", "0000");
        dueRelations("!", "x", "0100");
        dueRelations("x", "!", "0000");
        dueRelations("S(x)", "S", "0000");
        dueRelations("S", "S(x)", "0000");
        dueRelations("a(x,y)", "a(y,x)", "1111");
        dueRelations("a(x,y)", "a(x,x)", "0011");
        dueRelations("a(x,x)", "a(x,y)", "0111");
        dueRelations("a(x,y,x)", "a(s,q,q)", "0011");
        dueRelations("a(S(x),S(x))", "a(y,y)", "0100");
        dueRelations("a(S(x),S(z))", "a(y,y)", "0000");
        dueRelations("a(x)", "a(S(x))", "0011");
        dueRelations("a(x)", "S(a(x))", "0010");
        dueRelations("S(a(x))", "a(S(x))", "0000");
        dueRelations("C(A,x)", "C(S(A),D(y,B))", "0011");
        dueRelations("C(A,B)", "C(C(A,B),C(B,A))", "0011");
        dueRelations("C(A,B)", "C(C(A,A),C(A,A))", "0000");
        dueRelations("C(A,B)", "D(x,S(C(A,S(B))))", "0010");
        dueRelations("a()", "a()", "1111");
        dueRelations("a()", "a(a())", "0010");
        dueRelations("a(!)", "a(S(!))", "0011");
        dueRelations("a(x1,x2,m)", "a(m,x1,x2)", "1111");
        Talk t = new Talk();
        for (int what = 0; what < 4; what++) {
            Talk.due("relation(0, 0)", t.x.relation(0, 0, what), 1);
            Talk.due("relation(4, 0)", t.x.relation(4, 0, what), NONE);
            Talk.due("relation(0, 4)", t.x.relation(0, 4, what), NONE);
            Talk.due("relation(-1, 0)", t.x.relation(-1, 0, what), NONE);
            Talk.due("relation(0, -1)", t.x.relation(0, -1, what), NONE);
        }
        Talk.due("relation(0, 0, 4)", t.x.relation(0, 0, 4), NONE);
        Talk.due("relation(0, 0, -1)", t.x.relation(0, 0, -1), NONE);
    }

    private static void dueCommon(String one, String other, String want, int vars, int size) {
        Talk t = new Talk();
        t.expression(0, one);
        t.expression(2, other);
        String call = "common form of " + one + " and " + other;
        Talk.due(call, t.x.common(0, 2), want.length());
        Talk.due(call, t.written(), want);
        Talk.due(call, t.x.commonOf(0, 2, 0), vars);
        Talk.due(call, t.x.commonOf(0, 2, 1), size);
    }

    private static void commonForms() {
        dueCommon("A", "A", "A", 0, 1);
        dueCommon("!", "!", "!", 0, 1);
        dueCommon("A", "B", "m0", 1, 1);
        dueCommon("x", "x", "m0", 1, 1);
        dueCommon("S(A)", "S", "m0", 1, 1);
        dueCommon("a(x,y)", "a(y,x)", "a(m0,m1)", 2, 3);
        dueCommon("a(x,x)", "a(y,y)", "a(m0,m0)", 1, 3);
        dueCommon("a(x,x)", "a(y,z)", "a(m0,m1)", 2, 3);
        dueCommon("C(S(A),b(),S(A),S(B))", "C(B,b(),B,B)", "C(m0,b(),m0,m1)", 2, 5);
        dueCommon("C(S(A),S(S(A)))", "C(S(B),S(S(B)))", "C(S(m0),S(S(m0)))", 1, 6);
        dueCommon("a(b(x),c())", "a(b(A),!)", "a(b(m0),m1)", 2, 4);
        Talk t = new Talk();
        for (int w : new int[] {-1, 4}) {
            Talk.due("common", t.x.common(w, 0), NONE);
            Talk.due("common", t.x.common(0, w), NONE);
            Talk.due("commonOf", t.x.commonOf(w, 0, 0), NONE);
            Talk.due("commonOf", t.x.commonOf(0, w, 1), NONE);
        }
        Talk.due("commonOf", t.x.commonOf(0, 0, 2), NONE);
        Talk.due("commonOf", t.x.commonOf(0, 0, -1), NONE);
    }

    private static void steps() {
        Talk t = Talk.told(ADD + "b(x)=C(x,x,x);e(x,y)=y;", "!");
        t.expression(0, "a(S(x),a(Z,y))");
        Talk.due("step", t.x.step(0, 1), 1);
        Talk.due("write(1)", t.write(1), "S(a(x,a(Z,y)))");
        Talk.due("write(0)", t.write(0), "a(S(x),a(Z,y))");
        Talk.due("blocked", t.x.step(1, 2), -2);
        Talk.due("k stays", t.write(2), "!");
        t.bind("x=Z;y=B");
        Talk.due("bound, too", t.x.step(1, 2), 1);
        Talk.due("write(2)", t.write(2), "S(a(Z,B))");
        Talk.due("onto itself", t.x.step(2, 2), 1);
        Talk.due("write(2)", t.write(2), "S(B)");
        Talk.due("done", t.x.step(2, 3), 0);
        Talk.due("write(3)", t.write(3), "S(B)");
        t.expression(3, "C(x,y)");
        Talk.due("done with what is bound", t.x.step(3, 0), 0);
        Talk.due("write(0)", t.write(0), "C(Z,B)");
        t.expression(1, "!");
        Talk.due("stuck", t.x.step(1, 0), -2);
        Talk.due("k stays", t.write(0), "C(Z,B)");
        for (int w : new int[] {-1, 4}) {
            Talk.due("step", t.x.step(w, 0), NONE);
            Talk.due("step", t.x.step(0, w), NONE);
        }
        // 3 times 13 things and the CON: 40; with 14 too large
        t.expression(1, "b(" + Talk.nested("S(", 12, "A", ")") + ")");
        Talk.due("SIZE 40", t.x.step(1, 2), 1);
        Talk.due("of(2, 0)", t.x.of(2, 0), 40);
        t.expression(1, "b(" + Talk.nested("S(", 13, "A", ")") + ")");
        Talk.due("SIZE 43", t.x.step(1, 2), NONE);
        Talk.due("k stays", t.x.of(2, 0), 40);
        t.bind("x=" + forty());
        t.expression(1, "S(x)");
        Talk.due("DONE, SIZE 41", t.x.step(1, 2), NONE);
        t.expression(1, "e(x,A)");
        Talk.due("less behind the STEP", t.x.step(1, 2), 1);
        Talk.due("write(2)", t.write(2), "A");
        t.expression(1, "a(!,x)");
        Talk.due("STUCK, SIZE 42", t.x.step(1, 2), -2);
    }

    private static void writes() {
        Talk t = new Talk();
        String text = "C(x99,A,a(m,z0),b1(c99(),!,D(x)))";
        t.expression(1, text);
        Talk.due("write", t.write(1), text);
        Talk.due("write(4)", t.x.write(4), NONE);
        Talk.due("write(-1)", t.x.write(-1), NONE);
        Talk.due("it is still there", t.written(), text);
        // a step makes deeper ones than can be told
        t = new Talk();
        t.program("a(x)=" + Talk.nested("S(", 19, "x", ")") + ";");
        t.expression(0, "a(" + Talk.nested("S(", 18, "x", ")") + ")");
        Talk.due("step", t.x.step(0, 0), 1);
        Talk.due("write", t.write(0), Talk.nested("S(", 37, "x", ")"));
        Talk.due("of(0, 2)", t.x.of(0, 2), 37);
    }

    private static void dueOf(String text, int size, int vars, int deep, int kind, int calls) {
        Talk t = new Talk();
        t.expression(3, text);
        int[] want = {size, vars, deep, kind, calls};
        for (int what = 0; what < 5; what++) {
            Talk.due("of(3, " + what + ") of " + text, t.x.of(3, what), want[what]);
        }
        Talk.due("of(3, 5)", t.x.of(3, 5), NONE);
        Talk.due("of(3, -1)", t.x.of(3, -1), NONE);
    }

    private static void ofs() {
        dueOf("x", 1, 1, 0, 0, 0);
        dueOf("A", 1, 0, 0, 1, 0);
        dueOf("!", 1, 0, 0, 3, 0);
        dueOf("a()", 1, 0, 1, 2, 1);
        dueOf("S(a())", 2, 0, 2, 1, 1);
        dueOf("a(x,b(x,y),S(S(c(!))))", 9, 2, 4, 2, 3);
        dueOf("C(x,x1,x,A)", 5, 2, 1, 1, 0);
        Talk t = new Talk();
        Talk.due("of(4, 0)", t.x.of(4, 0), NONE);
        Talk.due("of(-1, 0)", t.x.of(-1, 0), NONE);
    }

    private static void octets() {
        Talk t = new Talk();
        t.expression(0, "a(x)");
        t.x.write(0);
        int[] bytes = {'a', '(', 'x', ')'};
        for (int k = 0; k < 4; k++) {
            Talk.due("octet(" + k + ")", t.x.octet(k), bytes[k]);
        }
        for (int k : new int[] {4, -1, Integer.MAX_VALUE, Integer.MIN_VALUE, 5}) {
            Talk.due("octet(" + k + ")", t.x.octet(k), NONE);
        }
        t.x.text(0);
        t.x.common(0, 9);
        t.x.writeNode(0);
        Talk.due("what NONE answers leaves it", t.written(), "a(x)");
        Talk.due("an empty text", t.x.text(2), 0);
        Talk.due("octet(0)", t.x.octet(0), NONE);
    }
}
