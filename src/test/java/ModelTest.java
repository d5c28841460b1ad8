/** Long rows of calls by chance (always the same ones), each answer compared with the model's. */
public final class ModelTest {
    private static final int MOST_TOLD_WRONG = 20;
    /** Some less than 512: what is asked for last goes on to its end. */
    private static final int MOST_CALLS = 440;

    private long seed;
    private Counted x;
    private Model y;
    private StringBuilder trace;
    private int calls;
    private int compared;
    private int wrong;
    private final int[] drives = new int[8];
    private final int[] kinds = new int[8];

    public static void main(String[] args) {
        int rounds = args.length > 0 ? Integer.parseInt(args[0]) : 20000;
        int from = args.length > 1 ? Integer.parseInt(args[1]) : 0;
        ModelTest test = new ModelTest();
        for (int i = from; i < from + rounds && test.wrong < MOST_TOLD_WRONG; i++) {
            test.round(i);
        }
        test.note("rounds " + rounds + ", answers compared " + test.compared);
        test.note("drives: trees " + test.drives[0] + ", broken off -2 " + test.drives[2] + ", -3 "
                + test.drives[3] + ", -4 " + test.drives[4] + ", -5 " + test.drives[5] + ", -6 " + test.drives[6]);
        test.note("NODES: FOLDED " + test.kinds[2] + ", SPLIT " + test.kinds[3] + ", LET " + test.kinds[4]
                + ", NODES above that became LET " + test.kinds[5] + "; most NODES " + test.kinds[0]);
        if (test.wrong + Talk.wrong > 0) {
            System.exit(1);
        }
    }

    private void note(String line) {
        System.out.println("ModelTest: " + line);
    }

    private int pick(int n) {
        seed = seed * 6364136223846793005L + 1442695040888963407L;
        return (int) ((seed >>> 33) % n);
    }

    private void due(String call, long got, long want) {
        calls++;
        compared++;
        if (got != want) {
            wrong++;
            note("wrong: " + call + " answered " + got + ", due is " + want + " after\n" + trace);
        }
    }

    private void round(int number) {
        seed = number * 7919L + 17;
        for (int i = 0; i < 10; i++) {
            pick(2);
        }
        x = new Counted();
        y = new Model();
        trace = new StringBuilder();
        calls = 0;
        int texts = 1 + pick(2);
        for (int t = 1; t <= texts && wrong == 0; t++) {
            tellAll();
            askAll(MOST_CALLS * t / texts);
        }
    }

    // ---- telling

    private void tell(String text, int what, int i) {
        String told = text.length() > 800 ? text.substring(0, 800) : text;
        for (int k = 0; k < told.length(); k += 20) {
            int[] w = new int[5];
            for (int b = 0; b < 20; b++) {
                int sign = k + b < told.length() ? told.charAt(k + b) : 0;
                w[b / 4] = w[b / 4] << 8 | sign;
            }
            due("feed", x.feed(w[0], w[1], w[2], w[3], w[4]), y.feed(w[0], w[1], w[2], w[3], w[4]));
        }
        due("end", x.end(told.length()), y.end(told.length()));
        trace.append("  ").append("pgbe".charAt(what)).append(what == 3 ? i : 0).append(" ").append(told).append('\n');
        switch (what) {
            case 0:
                due("program()", x.program(), y.program());
                break;
            case 1:
                due("goal()", x.goal(), y.goal());
                break;
            case 2:
                due("bind()", x.bind(), y.bind());
                break;
            default:
                due("expression(" + i + ")", x.expression(i), y.expression(i));
                break;
        }
        due("fault()", x.fault(), y.fault());
    }

    private static final String[] KNOWN = {
        "a(N,x)=x;a(C(x,y),z)=C(x,a(y,z));",
        "a(Z,x)=x;a(S(x),y)=S(a(x,y));b(Z,x)=Z;b(S(x),y)=a(y,b(x,y));",
        "a(N,x)=x;a(C(x,y),z)=C(x,a(y,z));b(N)=N;b(C(x,y))=a(b(y),C(x,N));",
        "b(N,x)=x;b(C(x,y),z)=b(y,C(x,z));c(x)=b(x,N);",
        "a(Z,x)=x;a(S(x),y)=a(x,S(y));c(x)=a(x,x);",
        "e(T,x,y)=x;e(F,x,y)=y;d(A,x)=e(x,T,F);d(B,x)=e(x,F,T);a(N)=T;a(C(x,y))=d(x,a(y));",
        "f(Z)=Z;f(S(x))=S(S(f(x)));g(Z)=Z;g(S(x))=g2(x);g2(Z)=Z;g2(S(x))=S(g(x));",
        "a(x)=C(x,a(S(x)));b(Z,y)=N;b(S(x),y)=c(y,x);c(N,x)=N;c(C(x,y),z)=C(x,b(z,y));",
        "h(x,y)=h(y,x);i(x)=i(S(x));j()=S(j());k(x)=k(k(x));",
        "d(Z,x)=Z;d(S(y),x)=C(x,d(y,x));f(Z,x,y,z,t,u,v,w)=Z;",
        "d(Z,x)=x;d(S(y),x)=d(y,C(x,x));f(Z,x,y,z,t,u,v,w)=f(w,x,y,z,t,u,v,Z);a(x,y)=a(y,x);",
        "g(A)=B;g(B)=C;g(C)=D;g(D)=E;g(E)=F;g(F)=G;g(G)=H;g(H)=I;g(I)=J;g(J)=K;g(K)=L;g(L)=A;a(N,x)=x;a(C(x,y),z)=C(x,a(y,z));",
        "a(N,x,y)=y;a(C(z,t),x,y)=a(t,b(z,x),y);b(N,x)=x;b(C(y,z),x)=C(y,b(z,x));c(x)=a(x,x,x);",
        "b(N)=N;b(C(x,y))=c(b(y),x);c(N,x)=C(x,N);c(C(x,y),z)=C(x,c(y,z));d(x)=b(b(x));e(x,y)=c(d(x),y);",
        "l(Z,x,y)=x;l(S(z),x,y)=l(z,y,x);a(L(x),y)=a(x,y);a(P(x,z),y)=P(a(x,y),a(z,y));a(Z,y)=y;",
    };

    private static final String[] GOALS = {
        "a(a(x,y),z)", "a(x,x)", "b(a(x,y))", "b(x,y)", "c(x)", "a(x,S(y))", "f(g(x))", "g(f(x))",
        "b(x,a(Z))", "h(x,y)", "i(x)", "j()", "k(x)", "l(x,A,B)", "a(b(x),y)", "b(b(x))", "C(a(x,y),a(y,x))",
        "b(b(x,y),z)", "a(b(x,y),b(y,x))", "l(l(x,y,z),y,x)", "a(a(x,y),a(y,x))", "a(S(S(Z)),x)",
        "b(C(A,C(B,C(D,N))))", "b(S(S(S(Z))),S(S(Z)))", "f(f(f(S(Z))))", "a(a(a(x,y),z),t)", "l(x)", "d(S(S(S(S(S(S(S(S(S(S(S(S(Z)))))))))))),f(x,y,z,t,u,v,w,m))",
        "d(x,f(x,y,z,t,u,v,w,m))", "d(S(S(S(S(Z)))),f(x,y,z,t,u,v,w,m))", "C(g(x),g(y),g(z),g(t))", "a(g(x),a(g(y),z))",
        "f(f(f(x,y,z,t,u,v,w,m),n,o,p,q,r,s,m1),m2,m3,m4,m5,m6,m7,m8)", "f(f(x,y,z,t,u,v,w,m),n,o,p,q,r,s,m1)",
        "a(g(x),g(y))", "C(g(x),C(g(y),C(g(z),g(t))))", "a(x,y,z)", "c(a(x,N,N))", "d(d(x))", "e(e(x,y),z)", "c(x)", "b(b(b(x)))", "a(!,x)",
    };

    private void tellAll() {
        int style = pick(5);
        String program = style < 2 ? KNOWN[pick(KNOWN.length)] : randomProgram();
        if (pick(6) == 0) {
            program += KNOWN[pick(KNOWN.length)];
        }
        tell(spoiled(program), 0, 0);
        tell(spoiled(goalText(style)), 1, 0);
        if (pick(2) == 0) {
            tell(spoiled(randomBound()), 2, 0);
        }
        for (int i = 0; i < 4; i++) {
            if (pick(2) == 0) {
                String s = pick(3) == 0 ? GOALS[pick(GOALS.length)] : expr(pick(5) + 1, "xyz", true);
                tell(spoiled(s), 3, pick(20) == 0 ? 4 - 5 * pick(2) : i);
            }
        }
        if (pick(3) == 0) {
            String s = y.write(0) >= 0 ? y.written() : "!";
            x.write(0);
            tell(renamed(s), 3, 1);
        }
    }

    private String renamed(String s) {
        StringBuilder out = new StringBuilder();
        for (char c : s.toCharArray()) {
            out.append(c >= 'm' && c <= 'z' ? (char) ('m' + (c - 'm' + 3) % 14) : c);
        }
        return out.toString();
    }

    private String spoiled(String s) {
        if (pick(8) > 0) {
            return s;
        }
        StringBuilder out = new StringBuilder(s);
        int changes = 1 + pick(2);
        String signs = "abxyz0123456789ABZS!(),=;(),=;";
        for (int i = 0; i < changes && out.length() > 0; i++) {
            int at = pick(out.length());
            char c = pick(30) == 0 ? (char) pick(256) : signs.charAt(pick(signs.length()));
            switch (pick(4)) {
                case 0:
                    out.setCharAt(at, c);
                    break;
                case 1:
                    out.insert(at, c);
                    break;
                case 2:
                    out.deleteCharAt(at);
                    break;
                default:
                    out.setLength(at);
                    break;
            }
        }
        return out.toString();
    }

    // ---- texts by chance; function a .. e has a fixed count of arguments

    private static final int[] ARGS = {2, 1, 2, 3, 0};
    private static final String[] CONS = {"Z", "S1", "C2", "N", "P3", "Q4", "A"};

    private String expr(int depth, String vars, boolean stuck) {
        int kind = pick(10);
        if (depth <= 0 || kind < 2) {
            int leaf = pick(12);
            if (stuck && leaf == 0) {
                return "!";
            }
            if (vars.isEmpty() || leaf < 4) {
                return leaf % 2 == 0 ? "Z" : "N";
            }
            return "" + vars.charAt(pick(vars.length()));
        }
        StringBuilder out = new StringBuilder();
        int args;
        if (kind < 6) {
            int f = pick(20) == 0 ? pick(ARGS.length) : pick(ARGS.length - 1);
            out.append((char) ('a' + f));
            args = pick(40) == 0 ? pick(9) : ARGS[f];
            out.append('(');
        } else {
            String con = CONS[pick(CONS.length)];
            out.append(con.charAt(0));
            args = con.length() == 1 ? 0 : con.charAt(1) - '0';
            if (args == 0) {
                return out.toString();
            }
            out.append('(');
        }
        for (int i = 0; i < args; i++) {
            out.append(i > 0 ? "," : "").append(expr(depth - 1 - pick(2), vars, stuck));
        }
        return out.append(')').toString();
    }

    private String randomProgram() {
        StringBuilder out = new StringBuilder();
        for (int f = 0; f < ARGS.length; f++) {
            if (pick(8) == 0) {
                continue;
            }
            boolean once = ARGS[f] == 0 || pick(4) == 0;
            int first = pick(CONS.length);
            int cases = once ? 1 : 1 + pick(3);
            for (int k = 0; k < cases; k++) {
                String con = CONS[(first + k) % CONS.length];
                clause(out, f, once ? null : con);
            }
        }
        return out.toString();
    }

    private void clause(StringBuilder out, int f, String con) {
        StringBuilder vars = new StringBuilder();
        out.append((char) ('a' + f)).append('(');
        int next = 0;
        String names = "mnopqrstuvwxyz";
        for (int i = 0; i < ARGS[f]; i++) {
            out.append(i > 0 ? "," : "");
            if (i > 0 || con == null) {
                vars.append(names.charAt(next));
                out.append(names.charAt(next++));
                continue;
            }
            out.append(con.charAt(0));
            int args = con.length() == 1 ? 0 : con.charAt(1) - '0';
            for (int k = 0; k < args; k++) {
                out.append(k == 0 ? "(" : ",").append(names.charAt(next));
                vars.append(names.charAt(next++));
            }
            out.append(args > 0 ? ")" : "");
        }
        out.append(")=").append(right(f, vars.toString())).append(';');
    }

    /** Often the function again, of a part of what it had. */
    private String right(int f, String vars) {
        if (pick(2) == 0 || vars.isEmpty()) {
            return expr(pick(4), vars, pick(10) == 0);
        }
        StringBuilder again = new StringBuilder();
        again.append((char) ('a' + f)).append('(').append(vars.charAt(0));
        for (int i = 1; i < ARGS[f]; i++) {
            again.append(',').append(expr(pick(3), vars, false));
        }
        again.append(')');
        switch (pick(4)) {
            case 0:
                return again.toString();
            case 1:
                return "S(" + again + ")";
            case 2:
                return "C(" + expr(pick(2), vars, false) + "," + again + ")";
            default:
                return "a(" + again + "," + expr(pick(2), vars, false) + ")";
        }
    }

    /** A call that doubles or repeats another one with many VARS. */
    private String wideGoal() {
        StringBuilder out = new StringBuilder("d(");
        int deep = 1 + pick(14);
        for (int i = 0; i < deep; i++) {
            out.append("S(");
        }
        out.append('Z');
        for (int i = 0; i < deep; i++) {
            out.append(')');
        }
        out.append(",f(x");
        for (int i = 1; i < 8; i++) {
            out.append(',').append(pick(3) == 0 ? 'N' : (char) ('n' + i));
        }
        return out.append("))").toString();
    }

    private String goalText(int style) {
        if (pick(12) == 0) {
            return wideGoal();
        }
        if (style < 2 && pick(4) > 0) {
            return GOALS[pick(GOALS.length)];
        }
        return expr(pick(5) + 1, "xyz", true);
    }

    private String randomBound() {
        StringBuilder out = new StringBuilder();
        String vars = "xyzt";
        int count = pick(4);
        for (int i = 0; i < count; i++) {
            out.append(i > 0 ? ";" : "").append(vars.charAt(i)).append('=').append(value(pick(6)));
        }
        return out.toString();
    }

    private String value(int depth) {
        if (depth <= 0) {
            return pick(2) == 0 ? "Z" : "N";
        }
        return pick(2) == 0 ? "S(" + value(depth - 1) + ")" : "C(" + value(depth - 2) + "," + value(depth - 1) + ")";
    }

    // ---- asking

    private static final int NONE = -1;

    /** Asks by chance, as long as the object may be asked; the tree first, and often. */
    private void askAll(int most) {
        askDriven();
        while (calls < most && wrong == 0) {
            switch (pick(16)) {
                case 0:
                    askState();
                    break;
                case 1:
                    written("text(2)", x.text(2), y.text(2));
                    break;
                case 2:
                    written("text(3)", x.text(3), y.text(3));
                    break;
                case 3:
                    askExpression(pick(6) - 1);
                    break;
                case 4:
                case 5:
                    askPair(pick(6) - 1, pick(6) - 1);
                    break;
                case 6:
                    askStep();
                    break;
                case 7:
                case 8:
                case 9:
                    askNode(pick(Math.max(2, y.tree(0) + 2)) - 1);
                    break;
                case 10:
                    askRuns(pick(4) - 1);
                    break;
                case 11:
                    written("text(0)", x.text(0), y.text(0));
                    break;
                case 12:
                    written("text(1)", x.text(1), y.text(1));
                    break;
                case 13:
                    due("saved", x.saved(), y.saved());
                    due("deepest", x.deepest(), y.deepest());
                    break;
                case 14:
                    askDriven();
                    break;
                default:
                    askTake();
                    break;
            }
        }
    }

    /** Some bytes of what was written, and those about its ends. */
    private void written(String call, int got, int want) {
        due(call, got, want);
        int length = y.written().length();
        int step = Math.max(1, length / 24);
        for (int k = pick(step); k < length; k += step) {
            due(call + " octet(" + k + ")", x.octet(k), y.octet(k));
        }
        for (int k : new int[] {-1, length - 1, length}) {
            due(call + " octet(" + k + ")", x.octet(k), y.octet(k));
        }
    }

    private void askState() {
        for (int w = -1; w <= 8; w++) {
            due("is(" + w + ")", x.is(w), y.is(w));
        }
        int k = pick(9) - 1;
        for (int w = -1; w <= 5; w++) {
            due("clause(" + k + "," + w + ")", x.clause(k, w), y.clause(k, w));
        }
        due("fault()", x.fault(), y.fault());
    }

    private void askExpression(int i) {
        written("write(" + i + ")", x.write(i), y.write(i));
        for (int w = -1; w <= 5; w++) {
            due("of(" + i + "," + w + ")", x.of(i, w), y.of(i, w));
            due("runOf(" + i + "," + w + ")", x.runOf(i, w), y.runOf(i, w));
        }
        due("deepest", x.deepest(), y.deepest());
    }

    private void askStep() {
        int i = pick(5);
        int k = pick(5);
        due("step(" + i + "," + k + ")", x.step(i, k), y.step(i, k));
        trace.append("  step ").append(i).append(' ').append(k).append('\n');
        written("write(" + k + ")", x.write(k), y.write(k));
    }

    private void askPair(int i, int j) {
        for (int w = -1; w <= 4; w++) {
            String call = "relation(" + i + "," + j + "," + w + ")";
            due(call, x.relation(i, j, w), y.relation(i, j, w));
        }
        // a COMMON form is asked for by itself, too
        if (pick(2) == 0) {
            written("common(" + i + "," + j + ")", x.common(i, j), y.common(i, j));
        }
        for (int w = -1; w <= 2; w++) {
            String call = "commonOf(" + i + "," + j + "," + w + ")";
            due(call, x.commonOf(i, j, w), y.commonOf(i, j, w));
        }
    }

    private void askDriven() {
        int driven = y.drive();
        due("drive", x.drive(), driven);
        trace.append("  drive ").append(driven).append('\n');
        drives[driven >= 0 ? 0 : -driven]++;
        for (int w = -1; w <= 11; w++) {
            due("tree(" + w + ")", x.tree(w), y.tree(w));
        }
        kinds[0] = Math.max(kinds[0], driven);
        for (int w = 2; w <= 5 && driven > 0; w++) {
            kinds[w] += y.tree(w);
        }
    }

    private void askNode(int k) {
        for (int w = -1; w <= 9; w++) {
            due("node(" + k + "," + w + ")", x.node(k, w), y.node(k, w));
        }
        for (int w = -1; w <= 3; w++) {
            due("ranked(" + k + "," + w + ")", x.ranked(k, w), y.ranked(k, w));
        }
        written("writeNode(" + k + ")", x.writeNode(k), y.writeNode(k));
    }

    private void askRuns(int which) {
        for (int w = -1; w <= 4; w++) {
            due("run(" + which + "," + w + ")", x.run(which, w), y.run(which, w));
        }
        due("deepest", x.deepest(), y.deepest());
        written("result(" + which + ")", x.result(which), y.result(which));
    }

    private void askTake() {
        due("take", x.take(), y.take());
        trace.append("  take\n");
        askState();
    }
}
