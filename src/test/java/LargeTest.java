import java.util.function.Supplier;

/** The largest and deepest things that a STEP, what is bound, or a SPLIT can make; all of it is written. */
public final class LargeTest {
    private static final int NONE = -1;
    private static final int BYTES_ASKED = 400;
    /** Of SIZE 40. */
    private static final String FORTY = "S(S(S(" + spine(9, "A") + ")))";

    public static void main(String[] args) {
        largestStep();
        longestNames();
        largestStepOfTaken();
        largestBound();
        deepestWritten();
        largeStepDropped();
        largeSplitDropped();
        Talk.finish("LargeTest");
    }

    private static String list(String thing, int times) {
        return thing + ("," + thing).repeat(times - 1);
    }

    /** A call of SIZE 40, with 35 of a leaf. */
    private static String wideCall(String leaf) {
        return "b10(" + list("b10(" + list(leaf, 8) + ")", 4) + "," + list(leaf, 3) + ")";
    }

    /** CONS, the last argument of each the next one: SIZE 1 + 4 * levels. */
    private static String spine(int levels, String leaf) {
        return Talk.nested("D(" + list(leaf, 3) + ",", levels, leaf, ")");
    }

    /** All that a RUN's end is written as, asked of as many new objects as its bytes need. */
    private static void dueResult(Supplier<Talk> told, int which, String want) {
        for (int start = 0; start <= want.length(); start += BYTES_ASKED) {
            Talk t = told.get();
            Talk.due("result(" + which + ")", t.x.result(which), want.length());
            for (int k = start; k < start + BYTES_ASKED; k++) {
                Talk.due("octet(" + k + ")", t.x.octet(k), k < want.length() ? want.charAt(k) : NONE);
            }
        }
    }

    private static Talk bound(Talk t, String values) {
        t.bind(values);
        Talk.due("fault of " + values, t.x.fault(), NONE);
        return t;
    }

    private static void largestStep() {
        Talk.sentence("11, 12: a STEP puts 119 things in place of each of 35 VARS");
        String less = "S(" + spine(9, "B") + ")";
        Supplier<Talk> told = () -> bound(Talk.told("f(x)=" + wideCall("x") + ";", "f(C(x,y,z))"),
                "x=" + FORTY + ";y=" + FORTY + ";z=" + less);
        told.get().dueRun(0, 3, 1, 35 * 119 + 5, 35 * 119 + 5);
        dueResult(told, 0, wideCall("C(" + FORTY + "," + FORTY + "," + less + ")"));
    }

    private static void longestNames() {
        Talk.sentence("12: what is at the end is written: things of six bytes");
        String call = "c99(" + list("c10(" + list("d99()", 8) + ")", 4) + "," + list("d10()", 2) + ")";
        Supplier<Talk> told = () -> Talk.told("f(x)=" + wideCall("x") + ";", "f(" + call + ")");
        told.get().dueRun(0, 3, 1, 35 * 39 + 5, 35 * 39 + 5);
        dueResult(told, 0, wideCall(call));
    }

    /** A PROGRAM that was taken, the one right side of which has SIZE 77, with 56 VARS. */
    private static Talk taken() {
        String forty = spine(9, "y").replaceFirst("y", "D(y,y)").replaceFirst("y", "S(y)");
        String less = spine(8, "y").replaceFirst("y", "D(y,y,y)");
        Talk t = Talk.told("f(A,y)=D(e(y),g(y));e(y)=" + forty + ";g(y)=" + less + ";", "f(x,y)");
        Talk.due("drive()", t.x.drive(), 80);
        Talk.due("take()", t.x.take(), 1);
        Talk.due("clause(0, 0)", t.x.clause(0, 0), 77);
        return t;
    }

    private static void largestStepOfTaken() {
        Talk.sentence("27, 12: a STEP by a RESIDUE that was taken puts 118 things in place of each of 56 VARS");
        String clause = taken().text(2);
        String right = clause.substring(clause.indexOf('=') + 1, clause.length() - 1);
        Talk.due("how many VARS", right.split("m0", -1).length - 1, 56);
        Supplier<Talk> told = () -> {
            Talk t = taken();
            t.goal("a0(A,C(x,y,z))");
            return bound(t, "x=" + FORTY + ";y=" + FORTY + ";z=" + spine(9, "B"));
        };
        told.get().dueRun(0, 3, 1, 56 * 118 + 21, 56 * 118 + 21);
        dueResult(told, 0, right.replace("m0", "C(" + FORTY + "," + FORTY + "," + spine(9, "B") + ")"));
    }

    /** SIZE 40, each letter one that stands in no other one. */
    private static String fortyOf(char letter) {
        return "C(" + letter + "," + letter + "," + spine(9, String.valueOf(letter)) + ")";
    }

    private static void largestBound() {
        Talk.sentence("11, 12: VARS being bound ones (in place of these first): 40 things in place of each of 77 VARS");
        String program = "d(Z,x)=Z;d(S(y),x)=C(x,d(y,x));f(Z,n,o,p,q,r,s)=Z;";
        String goal = "d(" + Talk.nested("S(", 11, "Z", ")") + ",f(m,n,o,p,q,r,s))";
        StringBuilder newGoal = new StringBuilder();
        for (int i = 0; i < 11; i++) {
            newGoal.append("C(a").append(i).append("(m,n,o,p,q,r,s),");
        }
        StringBuilder values = new StringBuilder();
        String want = newGoal + "Z" + ")".repeat(11);
        for (char var = 'm'; var <= 's'; var++) {
            String value = fortyOf((char) (var - 'm' + 'E'));
            values.append(var == 'm' ? "" : ";").append(var).append('=').append(value);
            want = want.replace(String.valueOf(var), value);
        }
        Supplier<Talk> told = () -> {
            Talk t = bound(Talk.told(program, goal), values.toString());
            t.x.drive();
            Talk.due("THE NEW GOAL", t.x.tree(10), 100);
            return t;
        };
        told.get().dueRun(1, 3, 0, 77 * 40 + 23, 77 * 40 + 23);
        String text = want;
        dueResult(told, 1, text);
        dueResult(() -> {
            Talk t = told.get();
            t.x.take();
            return t;
        }, 0, text);
    }

    private static void deepestWritten() {
        Talk.sentence("12, 29: what is at the end is written, its ( lie in one another 180 times");
        StringBuilder program = new StringBuilder("f(A,x)=f1(x);");
        for (int i = 1; i <= 3; i++) {
            String next = "f" + (i + 1) + "(x)";
            program.append("f").append(i).append("(x)=").append(Talk.nested("S(", 18, next, ")")).append(';');
        }
        program.append("f4(x)=").append(Talk.nested("S(", 18, "x", ")")).append(';');
        Supplier<Talk> told = () -> {
            Talk t = Talk.told(program.toString(), "f(x,y)");
            Talk.due("drive()", t.x.drive(), 78);
            t.x.take();
            t.goal("a0(A,a0(A," + Talk.nested("S(", 17, "x", ")") + "))");
            return bound(t, "x=" + Talk.nested("T(", 19, "A", ")"));
        };
        Talk t = told.get();
        t.dueRun(0, 3, 2, 181, 181);
        Talk.due("deepest()", t.x.deepest(), 73);
        dueResult(told, 0, Talk.nested("S(", 161, Talk.nested("T(", 19, "A", ")"), ")"));
    }

    private static void largeStepDropped() {
        Talk.sentence("17: what a STEP makes of EXPRESSION i (VARS bound, too): of 1,207 things two alone");
        Talk t = bound(Talk.told("f(m,n,o,p,q,r,s)=s;", "!"), "x=" + FORTY);
        int size = t.expression(0, "f(" + list("b10(" + list("x", 7) + ")", 4) + ",x,x,C(z))");
        Talk.due("expression(0)", size, 37);
        Talk.due("runOf(0, 2)", t.x.runOf(0, 2), 30 * 40 + 7);
        // its SIZE is asked of what EXPRESSION k would become (as NOTES.md reads it)
        Talk.due("step(0, 1)", t.x.step(0, 1), 1);
        Talk.due("write(1)", t.write(1), "C(z)");
    }

    private static void largeSplitDropped() {
        Talk.sentence("III: new VARS in place of that VAR, and then that STEP: of 176 things the last one alone");
        String goal = "f(x," + list("b10(" + list("x", 8) + ")", 4) + ",x,z)";
        Talk t = Talk.told("f(C(t,u,v,w),m,n,o,p,q,r)=S(r);", goal);
        Talk.due("is(3)", t.x.is(3), 40);
        Talk.due("drive()", t.x.drive(), 3);
        Talk.due("the RESIDUE", t.text(0), "a0(C(m0,m1,m2,m3),m4)=S(m4);");
        Talk.due("THE NEW GOAL", t.text(1), "a0(x,z)");
    }
}
