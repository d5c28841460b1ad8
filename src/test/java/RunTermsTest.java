/** Terms II: a test for each sentence on NEXT, STEPS, RUNS, and on expressions that are compared. */
public final class RunTermsTest {
    private static final int NONE = -1;
    private static final int STUCK = -2;
    private static final String ADD = "a(Z,x)=x;a(S(x),y)=S(a(x,y));";
    /** Of SIZE 30, 29. */
    private static final String THIRTY = "C(" + s(9) + "," + s(9) + "," + s(8) + ")";
    private static final String ONE_LESS = "C(" + s(9) + "," + s(9) + "," + s(7) + ")";

    public static void main(String[] args) {
        nextOnce();
        nextNotTold();
        nextNoArgument();
        nextCon();
        nextVar();
        nextStuckSign();
        nextCall();
        stepOnce();
        stepCase();
        stepNoCase();
        stepNotTold();
        stepStuckSign();
        stepBlocked();
        boundFirst();
        conFromLeft();
        endDone();
        endStuck();
        endSteps();
        endLarge();
        largeAheadOfOthers();
        deep();
        renaming();
        instance();
        coupled();
        embedded();
        common();
        comparedOf40();
        Talk.finish("RunTermsTest");
    }

    private static String s(int times) {
        return Talk.nested("S(", times, "A", ")");
    }

    /** What a STEP makes of an expression: the text, or what step() answered. */
    private static String stepped(String program, String text) {
        Talk t = Talk.told(program, "!");
        t.expression(0, text);
        int answer = t.x.step(0, 1);
        return answer == 1 ? t.write(1) : String.valueOf(answer);
    }

    private static void dueStep(String program, String text, String want) {
        Talk.due("step of " + text, stepped(program, text), want);
    }

    private static void dueStuck(String program, String text) {
        dueStep(program, text, String.valueOf(STUCK));
        Talk t = Talk.told(program, text);
        Talk.due("run(0, 0) of " + text, t.x.run(0, 0), 1);
        Talk.due("run(0, 1) of " + text, t.x.run(0, 1), 0);
        Talk.due("result of " + text, t.result(0), text);
    }

    private static void nextOnce() {
        Talk.sentence("NEXT of a function's call: itself, if it is told AT ONCE");
        String program = "f(x,y)=C(y,x);g()=A;h(A)=B;";
        dueStep(program, "f(g(),h(A))", "C(h(A),g())");
        dueStep(program, "f(h(A),x)", "C(x,h(A))");
        dueStep(program, "f(x,!)", "C(!,x)");
        dueStep(program, "f(!,k())", "C(k(),!)");
    }

    private static void nextNotTold() {
        Talk.sentence("NEXT: itself, if it is not told at all");
        dueStuck("g()=A;", "k(g())");
        dueStuck("g()=A;k(x)=x;", "k(g(),A)");
        dueStuck("g()=A;h(A)=B;", "h(k(g()))");
    }

    private static void nextNoArgument() {
        Talk.sentence("NEXT: itself, if it has no argument");
        dueStep("g()=A;g(A)=B;", "g()", "A");
        dueStuck("g(A)=B;", "g()");
        dueStep("g()=A;h(A)=B;", "h(g())", "h(A)");
    }

    private static void nextCon() {
        Talk.sentence("by CASES: with a CON as first argument itself");
        dueStep(ADD, "a(Z,a(Z,A))", "a(Z,A)");
        dueStep(ADD, "a(S(a(Z,Z)),A)", "S(a(a(Z,Z),A))");
    }

    private static void nextVar() {
        Talk.sentence("by CASES: with a VAR likewise");
        dueStuck(ADD, "a(x,a(Z,A))");
        dueStuck(ADD, "a(a(x,a(Z,A)),Z)");
    }

    private static void nextStuckSign() {
        Talk.sentence("by CASES: with a ! likewise");
        dueStuck(ADD, "a(!,a(Z,A))");
        dueStuck(ADD, "a(a(!,Z),a(Z,A))");
    }

    private static void nextCall() {
        Talk.sentence("by CASES: with a call NEXT of that");
        String program = ADD + "g()=Z;f(x)=S(x);";
        dueStep(program, "a(a(Z,Z),A)", "a(Z,A)");
        dueStep(program, "a(a(a(g(),x),y),a(Z,Z))", "a(a(a(Z,x),y),a(Z,Z))");
        dueStep(program, "a(f(g()),g())", "a(S(g()),g())");
        dueStep(program, "a(a(S(g()),x),y)", "a(S(a(g(),x)),y)");
    }

    private static void stepOnce() {
        Talk.sentence("A STEP, told AT ONCE: in its place the right side of the CLAUSE, arguments in place of VARS, as they are");
        String program = ADD + "f(x,y,z)=C(z,x,z);g()=A;";
        dueStep(program, "f(g(),k(),a(Z,g()))", "C(a(Z,g()),g(),a(Z,g()))");
        dueStep(program, "f(y,z,x)", "C(x,y,x)");
        dueStep(program, "D(Z,f(!,A,x),g())", "D(Z,C(x,!,x),g())");
        dueStep("f(x)=A;", "f(k())", "A");
    }

    private static void stepCase() {
        Talk.sentence("or by a CASE for that CON: arguments (those of the CON, too) in place of VARS, as they are");
        String program = "f(A,x)=x;f(B(x,y),z)=C(z,y,x);f(B(x),z)=D(x,z);f(B,z)=E(z);g()=A;";
        dueStep(program, "f(A,g())", "g()");
        dueStep(program, "f(B(g(),k()),f(A,A))", "C(f(A,A),k(),g())");
        dueStep(program, "f(B(y),x)", "D(y,x)");
        dueStep(program, "f(B,!)", "E(!)");
        dueStep(program, "f(B(z,x),y)", "C(y,x,z)");
        dueStep("f(B(m,n,o,p),q)=C(C(q,p),o,n,m);", "f(B(A,D,E,F),G)", "C(C(G,F),E,D,A)");
    }

    private static void stepNoCase() {
        Talk.sentence("No CASE for that CON: STUCK");
        dueStuck(ADD, "a(A,Z)");
        dueStuck(ADD, "a(Z(Z),Z)");
        dueStuck(ADD, "a(S,Z)");
        dueStuck(ADD, "a(S(Z,Z),Z)");
        dueStuck(ADD, "a(a(T,Z),Z)");
    }

    private static void stepNotTold() {
        Talk.sentence("not told at all: STUCK");
        dueStuck("", "k()");
        dueStuck("", "k(A)");
        dueStuck(ADD, "a(Z)");
        dueStuck(ADD, "a(Z,Z,Z)");
        dueStuck(ADD, "a0(Z,Z)");
        dueStuck(ADD, "a(k(Z),Z)");
    }

    private static void stepStuckSign() {
        Talk.sentence("a !: STUCK");
        dueStuck(ADD, "!");
        dueStuck(ADD, "a(!,Z)");
        dueStuck(ADD, "C(A,!,a(Z,Z))");
    }

    private static void stepBlocked() {
        Talk.sentence("a VAR: BLOCKED by it; 1 STUCK (also BLOCKED)");
        dueStuck(ADD, "a(x,Z)");
        dueStuck(ADD, "a(a(a(x,Z),Z),Z)");
        dueStuck(ADD, "S(S(a(x,y)))");
    }

    private static void boundFirst() {
        Talk.sentence("VARS being bound ones (in place of these first)");
        Talk t = Talk.told(ADD, "a(x,C(x,y))");
        t.bind("x=S(Z)");
        t.dueRun(0, 0, 2, 5, 7);
        Talk.due("result", t.result(0), "S(C(S(Z),y))");
        Talk.due("greatest", t.x.run(0, 3), 7);
        // the VARS of a CLAUSE are its own
        t.bind("y=A");
        t.goal("a(Z,x)");
        Talk.due("result", t.result(0), "x");
        t.goal("a(S(Z),x)");
        Talk.due("result", t.result(0), "S(x)");
        t.bind("");
        Talk.due("none bound", t.result(0), "S(x)");
    }

    private static void conFromLeft() {
        Talk.sentence("a CON: its arguments from the left, the first one that isn't DONE");
        String program = ADD + "g()=A;";
        dueStep(program, "C(x,D(A,g()),g(),k())", "C(x,D(A,A),g(),k())");
        dueStep(program, "C(A,g(),!)", "C(A,A,!)");
        dueStuck(program, "C(A,!,g())");
        dueStuck(program, "C(a(x,Z),g())");
        Talk t = Talk.told(program, "C(g(),k(),g())");
        t.dueRun(0, 1, 1, 4, 4);
        Talk.due("result", t.result(0), "C(A,k(),g())");
    }

    private static void endDone() {
        Talk.sentence("DONE: only VARS and CONS. It ends: 0 DONE");
        for (String text : new String[] {"x", "A", "C(x,A,D(y))"}) {
            Talk t = Talk.told("", text);
            Talk.due("run(0, 0) of " + text, t.x.run(0, 0), 0);
            Talk.due("run(0, 1) of " + text, t.x.run(0, 1), 0);
        }
        for (String text : new String[] {"!", "k()", "C(x,!)", "D(D(k(x)))"}) {
            Talk t = Talk.told("", text);
            Talk.due("run(0, 0) of " + text, t.x.run(0, 0), 1);
        }
    }

    private static void endStuck() {
        Talk.sentence("It ends: 1 STUCK, behind STEPS, too");
        Talk t = Talk.told(ADD + "f(x)=a(x,k());", "C(f(S(y)),f(Z))");
        t.dueRun(0, 1, 2, 7, 7);
        Talk.due("result", t.result(0), "C(S(a(y,k())),f(Z))");
    }

    /** A program that comes to an end in so many STEPS (183 at least), its SIZE small. */
    private static String chain(int steps, String end) {
        StringBuilder out = new StringBuilder("a0()=b(").append(Talk.nested("T(", 18, "Z", ")")).append(");");
        out.append("b(T(x))=c1(x);");
        for (int i = 1; i < 9; i++) {
            out.append("c").append(i).append("(x)=c").append(i + 1).append("(x);");
        }
        out.append("c9(x)=b(x);b(Z)=d1();");
        int rest = steps - 182;
        for (int i = 1; i < rest; i++) {
            out.append("d").append(i).append("()=d").append(i + 1).append("();");
        }
        return out.append("d").append(rest).append("()=").append(end).append(";e(x)=D(x,x,x,x);").toString();
    }

    private static void endSteps() {
        Talk.sentence("2 200 STEPS were, and it is not DONE, nor STUCK");
        Talk t = Talk.told(chain(199, "A"), "a0()");
        t.dueRun(0, 0, 199, 1, 20);
        t = Talk.told(chain(200, "A"), "a0()");
        t.dueRun(0, 0, 200, 1, 20);
        t = Talk.told(chain(200, "C(!,a0())"), "a0()");
        t.dueRun(0, 1, 200, 3, 20);
        t = Talk.told(chain(200, "k()"), "a0()");
        t.dueRun(0, 1, 200, 1, 20);
        t = Talk.told(chain(201, "A"), "a0()");
        t.dueRun(0, 2, 200, 1, 20);
        Talk.due("result", t.result(0), "d19()");
        t = Talk.told("f(x)=f(x);", "f(Z)");
        t.dueRun(0, 2, 200, 2, 2);
    }

    private static String four(String thing) {
        return "D(" + thing + "," + thing + "," + thing + "," + thing + ")";
    }

    private static void endLarge() {
        Talk.sentence("3 its SIZE is above 120 (asked behind each STEP, and at first)");
        Talk t = Talk.told("e(x)=D(x,x,x,x);f(x,y)=D(x,x,x,y);g(D(x,y,z,t))=t;", "D(x,x,x,y)");
        t.bind("x=" + THIRTY + ";y=" + ONE_LESS);
        t.dueRun(0, 0, 0, 120, 120);
        t.goal("D(x,x,x,x)");
        t.dueRun(0, 3, 0, 121, 121);
        Talk.due("result", t.x.result(0), four(THIRTY).length());
        t.goal("f(x,y)");
        t.dueRun(0, 0, 1, 120, 120);
        t.goal("f(x,x)");
        t.dueRun(0, 3, 1, 121, 121);
        // it would be small again behind the next STEP
        t.goal("g(f(x,x))");
        t.dueRun(0, 3, 1, 122, 122);
        t.goal("g(f(z,x))");
        t.dueRun(0, 0, 2, 30, 35);
    }

    private static void largeAheadOfOthers() {
        Talk.sentence("3 its SIZE is above 120 (ahead of others)");
        Talk t = Talk.told("e(x)=D(x,x,x,x);f(x)=D(!,x,x,D(x,x));", "D(!,x,x,D(x,x))");
        t.bind("x=" + THIRTY);
        t.dueRun(0, 3, 0, 123, 123);
        t.goal("D(k(),x,x,D(x,x))");
        t.dueRun(0, 3, 0, 123, 123);
        t.goal("f(x)");
        t.dueRun(0, 3, 1, 123, 123);
        // the 200th STEP makes it too large
        t = Talk.told(chain(199, "e(" + THIRTY + ")"), "a0()");
        t.dueRun(0, 3, 200, 121, 121);
        t = Talk.told(chain(199, "e(" + ONE_LESS + ")"), "a0()");
        t.dueRun(0, 0, 200, 117, 117);
    }

    private static void dueDeep(String goal, int want) {
        Talk t = Talk.told(ADD + "g()=A;", goal);
        t.x.run(0, 0);
        Talk.due("deepest() of " + goal, t.x.deepest(), want);
    }

    private static void deep() {
        Talk.sentence("A STEP lies DEEP: how many EXPRESSIONS lie in one another from the whole to NEXT, both counted");
        dueDeep("g()", 1);
        dueDeep("S(g())", 2);
        dueDeep("C(A,B,g())", 2);
        dueDeep("C(D(A,B),D(A,S(B)),D(A,g()))", 3);
        dueDeep("C(S(S(S(A))),D(A,B),g())", 2);
        dueDeep("a(a(Z,Z),Z)", 2);
        dueDeep("S(a(a(a(Z,Z),Z),Z))", 4);
        dueDeep("C(S(S(g())),g())", 4);
        dueDeep("C(g(),S(S(g())))", 4);
        dueDeep("a(Z,S(S(S(A))))", 1);
        dueDeep("x", 0);
        dueDeep("a(x,g())", 0);
    }

    private static int related(String one, String other, int what) {
        Talk t = new Talk();
        t.expression(0, one);
        t.expression(1, other);
        return t.x.relation(0, 1, what);
    }

    /** Whether one is so to the other: 1, 0; and the other to the one. */
    private static void dueRelated(int what, String one, String other, int want, int back) {
        Talk.due("relation " + what + " of " + one + " to " + other, related(one, other, what), want);
        Talk.due("relation " + what + " of " + other + " to " + one, related(other, one, what), back);
    }

    private static void renaming() {
        Talk.sentence("RENAMING: two are alike but for VARS, one for one");
        dueRelated(0, "x", "y", 1, 1);
        dueRelated(0, "a(x,y)", "a(y,x)", 1, 1);
        dueRelated(0, "a(x,y,z)", "a(y,z,x)", 1, 1);
        dueRelated(0, "a(x,C(y,x))", "a(z,C(x,z))", 1, 1);
        dueRelated(0, "a(x,y)", "a(z,z)", 0, 0);
        dueRelated(0, "a(x,y,x)", "a(x,y,y)", 0, 0);
        dueRelated(0, "a(x,y,y)", "a(x,x,y)", 0, 0);
        dueRelated(0, "a(x)", "a(A)", 0, 0);
        dueRelated(0, "a(x)", "b(x)", 0, 0);
        dueRelated(0, "C(x)", "C(x,x)", 0, 0);
        dueRelated(0, "a(!)", "a(!)", 1, 1);
        dueRelated(0, "a(!)", "a(x)", 0, 0);
        dueRelated(0, "C(x,A)", "C(A,x)", 0, 0);
        dueRelated(0, "S(S(x))", "S(x)", 0, 0);
    }

    private static void instance() {
        Talk.sentence("INSTANCE of another one: that with EXPRESSIONS in place of its VARS");
        dueRelated(1, "a(A)", "a(x)", 1, 0);
        dueRelated(1, "a(x,y)", "a(y,x)", 1, 1);
        dueRelated(1, "a(S(x))", "a(x)", 1, 0);
        dueRelated(1, "a(x,x)", "a(x,y)", 1, 0);
        dueRelated(1, "a(b(y),b(y))", "a(x,x)", 1, 0);
        dueRelated(1, "a(b(y),b(z))", "a(x,x)", 0, 0);
        dueRelated(1, "C(S(S(A)),S(A))", "C(S(x),x)", 1, 0);
        dueRelated(1, "C(S(S(A)),S(S(A)))", "C(S(x),x)", 0, 0);
        dueRelated(1, "C(D(x,y),D(x,y),A)", "C(z,z,x)", 1, 0);
        dueRelated(1, "C(D(x,y),D(y,x),A)", "C(z,z,x)", 0, 0);
        dueRelated(1, "!", "x", 1, 0);
        dueRelated(1, "a()", "x", 1, 0);
        dueRelated(1, "A", "B", 0, 0);
        dueRelated(1, "A", "A", 1, 1);
        dueRelated(1, "b(x)", "a(x)", 0, 0);
        dueRelated(1, "C(x)", "C(x,y)", 0, 0);
    }

    private static void coupled() {
        Talk.sentence("COUPLED a in b: both VARS; both !; the same CON or function, and each argument EMBEDDED in that of b");
        dueRelated(3, "x", "y", 1, 1);
        dueRelated(3, "!", "!", 1, 1);
        dueRelated(3, "x", "!", 0, 0);
        dueRelated(3, "x", "A", 0, 0);
        dueRelated(3, "A", "A", 1, 1);
        dueRelated(3, "A", "B", 0, 0);
        dueRelated(3, "a()", "a()", 1, 1);
        dueRelated(3, "a(x)", "a(b(y))", 1, 0);
        dueRelated(3, "a(x)", "b(a(x))", 0, 0);
        dueRelated(3, "C(x,A)", "C(D(A,y),S(A))", 1, 0);
        // argument by argument
        dueRelated(3, "C(A,B)", "C(B,A)", 0, 0);
        dueRelated(3, "C(A,B)", "C(D(A,B),A)", 0, 0);
        dueRelated(3, "C(A,x)", "C(A,A)", 0, 0);
        dueRelated(3, "S(x)", "S(x,y)", 0, 0);
        dueRelated(3, "a(x,y)", "a(z,z)", 1, 1);
        // the arguments need be EMBEDDED alone
        dueRelated(3, "S(S(x))", "S(T(S(x)))", 1, 0);
    }

    private static void embedded() {
        Talk.sentence("EMBEDDED: COUPLED, or EMBEDDED in some argument of b");
        dueRelated(2, "x", "A", 0, 0);
        dueRelated(2, "x", "C(A,S(y))", 1, 0);
        dueRelated(2, "!", "a(A,S(!))", 1, 0);
        dueRelated(2, "A", "C(B,D(E,S(A)))", 1, 0);
        dueRelated(2, "a(x)", "C(A,B,S(a(S(y))))", 1, 0);
        dueRelated(2, "S(S(x))", "S(T(S(T(y))))", 1, 0);
        dueRelated(2, "S(T(x))", "T(S(x))", 0, 0);
        dueRelated(2, "C(A,B)", "D(C(A,A),C(B,B))", 0, 0);
        dueRelated(2, "C(A,B)", "D(C(A,A),C(S(A),S(B)))", 1, 0);
        dueRelated(2, "a()", "a(a(),x)", 1, 0);
        dueRelated(2, "S(x)", "C(x,y,z,S)", 0, 0);
    }

    private static void dueCommon(String one, String other, String want) {
        Talk t = new Talk();
        t.expression(0, one);
        t.expression(1, other);
        t.x.common(0, 1);
        Talk.due("the COMMON form of " + one + " and " + other, t.written(), want);
    }

    private static void common() {
        Talk.sentence("COMMON form of a, b: where both have the same CON, function, ! that, and COMMON forms of arguments");
        dueCommon("C(A,!,b(D(A)),c())", "C(A,!,b(D(A)),c())", "C(A,!,b(D(A)),c())");
        dueCommon("C(A,!)", "C(!,A)", "C(m0,m1)");
        dueCommon("b(D(A))", "b(D(B))", "b(D(m0))");
        Talk.sentence("COMMON form: else a VAR");
        dueCommon("A", "B", "m0");
        dueCommon("x", "x", "m0");
        dueCommon("x", "A", "m0");
        dueCommon("!", "x", "m0");
        dueCommon("C(x)", "C(x,y)", "m0");
        dueCommon("b(x)", "c(x)", "m0");
        Talk.sentence("COMMON form: for like pairs (like in both) the same VAR, for unlike pairs unlike ones");
        dueCommon("C(A,A,A)", "C(B,B,B)", "C(m0,m0,m0)");
        dueCommon("C(A,A,A)", "C(B,D,B)", "C(m0,m1,m0)");
        dueCommon("C(A,D,A)", "C(B,B,B)", "C(m0,m1,m0)");
        dueCommon("C(A,B)", "C(B,A)", "C(m0,m1)");
        dueCommon("C(x,y,x)", "C(x,x,x)", "C(m0,m1,m0)");
        dueCommon("C(S(x),D(S(x),A))", "C(T(y),D(T(y),B))", "C(m0,D(m0,m1))");
        dueCommon("C(S(x,y),S(x,x))", "C(A,A)", "C(m0,m1)");
    }

    /** An EXPRESSION of SIZE 40 with 35 VARS, the last one of which is told. */
    private static String thirtyFive(char letter, String last) {
        StringBuilder out = new StringBuilder();
        for (int i = 0; i < 34; i++) {
            out.append(i % 7 == 0 ? "a(" : "").append(letter).append(i).append(',');
        }
        return out.append(last).append(")))))").toString();
    }

    private static void comparedOf40() {
        Talk.sentence("EXPRESSIONS of SIZE 40 are compared like others");
        Talk t = new Talk();
        Talk.due("SIZE", t.expression(0, thirtyFive('m', "m34")), 40);
        t.expression(1, thirtyFive('n', "n34"));
        t.expression(2, thirtyFive('n', "n33"));
        t.expression(3, thirtyFive('n', "A"));
        int[][] want = {{1, 1, 1, 1}, {0, 0, 1, 1}, {0, 0, 0, 0}};
        int[][] back = {{1, 1, 1, 1}, {0, 1, 1, 1}, {0, 1, 0, 0}};
        int[] vars = {35, 35, 35};
        for (int k = 0; k < 3; k++) {
            for (int what = 0; what < 4; what++) {
                Talk.due("relation(0, " + (k + 1) + ", " + what + ")", t.x.relation(0, k + 1, what), want[k][what]);
                Talk.due("relation(" + (k + 1) + ", 0, " + what + ")", t.x.relation(k + 1, 0, what), back[k][what]);
            }
            Talk.due("commonOf", t.x.commonOf(0, k + 1, 0), vars[k]);
            Talk.due("commonOf", t.x.commonOf(0, k + 1, 1), 40);
        }
        t.x.common(0, 1);
        Talk.due("written", t.written(), thirtyFive('m', "m34"));
        t.expression(3, "x");
        Talk.due("EMBEDDED", t.x.relation(3, 0, 2), 1);
        t.expression(3, "a(A)");
        Talk.due("EMBEDDED", t.x.relation(3, 0, 2), 0);
        Talk.due("EMBEDDED", t.x.relation(0, 3, 2), 0);
    }
}
