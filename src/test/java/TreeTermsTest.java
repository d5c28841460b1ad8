/** Terms III: a test for each sentence on driving, on where it breaks off, and on the RESIDUE. */
public final class TreeTermsTest {
    private static final int NONE = -1;
    private static final String ADD = "a(Z,x)=x;a(S(x),y)=S(a(x,y));";

    public static void main(String[] args) {
        firstNotLooked();
        aVar();
        stuckSign();
        aCon();
        aStep();
        aSplit();
        stuckCall();
        notBeside();
        unlikeKinds();
        letIsNoKind();
        foldedAheadOfLet();
        nearestCoupled();
        coupledNotEmbedded();
        letBelow();
        aboveBecomesLet();
        bindingsOfAbove();
        casesInOrder();
        newVarsWherever();
        newVarsUnlike();
        newVarsUnlikeNamed();
        eightyLooked();
        goneLookedCount();
        oneByOne();
        goneMadeCount();
        sizeOfNodes();
        sizeOfNodeZero();
        eightArguments();
        fortyClauses();
        hundredComing();
        whichFirst();
        noTreeThen();
        numbers();
        residueOfPlain();
        residueOfLet();
        residueOfStep();
        residueOfSplit();
        residueOfFolded();
        functionNames();
        newGoalVars();
        Talk.finish("TreeTermsTest");
    }

    /** NODES in their order: kind, the NODE above, where it is FOLDED to, its function, its text. */
    private static void dueNodes(Talk t, String... nodes) {
        Talk.due("drive()", t.x.drive(), nodes.length);
        for (int k = 0; k < nodes.length; k++) {
            String[] due = nodes[k].split(" ");
            int[] whats = {0, 1, 7, 8};
            for (int i = 0; i < whats.length; i++) {
                int want = due[i].equals("-") ? NONE : Integer.parseInt(due[i]);
                Talk.due("node(" + k + ", " + whats[i] + ")", t.x.node(k, whats[i]), want);
            }
            Talk.due("writeNode(" + k + ")", t.x.writeNode(k), due[4].length());
            Talk.due("writeNode(" + k + ")", t.written(), due[4]);
        }
    }

    private static void dueResidue(Talk t, String residue, String goal) {
        Talk.due("the RESIDUE", t.text(0), residue);
        Talk.due("THE NEW GOAL", t.text(1), goal);
    }

    private static void dueDrive(String program, String goal, int want) {
        Talk t = Talk.told(program, goal);
        Talk.due("drive() of " + goal, t.x.drive(), want);
    }

    private static void firstNotLooked() {
        Talk.sentence("Always the first NODE that was not LOOKED at (a NODE ahead of what is below it, that from the left)");
        Talk t = Talk.told("b(S(x),y)=C(b(x,S(y)),k(A),D(Z,Z));", "b(y,y)");
        dueNodes(t, "5 - - - b(m0,m0)", "3 0 - 0 b(m0,m1)", "1 1 - - C(b(m0,S(m1)),k(A),D(Z,Z))", "5 2 - - b(m0,S(m1))",
                "4 3 1 - b(m0,m1)", "0 3 - - m0", "1 3 - - S(m0)", "0 6 - - m0", "6 2 - - k(A)",
                "1 2 - - D(Z,Z)", "1 9 - - Z", "1 9 - - Z", "0 0 - - m0", "0 0 - - m0");
        // k(A), D(Z,Z) beside the one that grew were not LOOKED at yet
        Talk.due("tree(1)", t.x.tree(1), 16);
        dueResidue(t, "a0(S(m0),m1)=C(a0(m0,S(m1)),!,D(Z,Z));", "a0(y,y)");
        // the one that grew comes last here
        t = Talk.told("b(S(x),y)=C(k(A),D(Z,Z),b(x,S(y)));", "b(y,y)");
        Talk.due("drive()", t.x.drive(), 14);
        Talk.due("tree(1)", t.x.tree(1), 20);
    }

    private static void aVar() {
        Talk.sentence("0 a VAR: nothing below");
        dueNodes(Talk.told(ADD, "x"), "0 - - - m0");
        dueNodes(Talk.told(ADD, "S(y)"), "1 - - - S(m0)", "0 0 - - m0");
    }

    private static void stuckSign() {
        Talk.sentence("6 a !: nothing below");
        dueNodes(Talk.told(ADD, "!"), "6 - - - !");
        dueNodes(Talk.told(ADD, "S(!)"), "1 - - - S(!)", "6 0 - - !");
    }

    private static void aCon() {
        Talk.sentence("1 a CON: its arguments below, each a NODE");
        dueNodes(Talk.told(ADD, "A"), "1 - - - A");
        dueNodes(Talk.told("", "C(x,D(A,y),x,!)"), "1 - - - C(m0,D(A,m1),m0,!)", "0 0 - - m0", "1 0 - - D(A,m0)",
                "1 2 - - A", "0 2 - - m0", "0 0 - - m0", "6 0 - - !");
        Talk t = Talk.told("", "C(A,B,D,E)");
        t.x.drive();
        Talk.due("how many below", t.x.node(0, 6), 4);
        Talk.due("which below", t.x.node(4, 2), 3);
    }

    private static void aStep() {
        Talk.sentence("A call: by NEXT it can do a STEP (2): below: the EXPRESSION with the STEP done in place of NEXT");
        Talk t = Talk.told(ADD + "f(x)=C(x,x);", "a(a(S(Z),y),f(x))");
        dueNodes(t, "2 - - - a(a(S(Z),m0),f(m1))", "2 0 - - a(S(a(Z,m0)),f(m1))", "1 1 - - S(a(a(Z,m0),f(m1)))",
                "2 2 - - a(a(Z,m0),f(m1))", "3 3 - 0 a(m0,f(m1))", "2 4 - - f(m0)", "1 5 - - C(m0,m0)", "0 6 - - m0",
                "0 6 - - m0", "1 4 - - S(a(m0,f(m1)))", "4 9 4 - a(m0,f(m1))");
        dueResidue(t, "a0(Z,m0)=C(m0,m0);a0(S(m0),m1)=S(a0(m0,m1));", "S(a0(y,x))");
    }

    private static void aSplit() {
        Talk.sentence("BLOCKED (3): SPLIT");
        Talk t = Talk.told(ADD, "a(x,y)");
        dueNodes(t, "3 - - 0 a(m0,m1)", "0 0 - - m0", "1 0 - - S(a(m0,m1))", "4 2 0 - a(m0,m1)");
        dueResidue(t, "a0(Z,m0)=m0;a0(S(m0),m1)=S(a0(m0,m1));", "a0(x,y)");
        // of the function of NEXT
        t = Talk.told("f(A)=A;f(B)=A;f(D)=A;g(A)=B;g(B)=D;", "f(g(x))");
        dueNodes(t, "3 - - 0 f(g(m0))", "2 0 - - f(B)", "1 1 - - A", "2 0 - - f(D)", "1 3 - - A");
    }

    private static void stuckCall() {
        Talk.sentence("or STUCK: 6 (nothing below)");
        for (String goal : new String[] {"k()", "k(Z)", "a(!,Z)", "a(A,Z)", "a(S,Z)", "a(k(Z),Z)", "a(a(T,Z),Z)", "a(Z)"}) {
            Talk t = Talk.told(ADD, goal);
            dueNodes(t, "6 - - - " + goal);
            dueResidue(t, "", "!");
        }
    }

    private static void notBeside() {
        Talk.sentence("Of NODES above it");
        Talk t = Talk.told(ADD, "C(a(x,y),a(x,y))");
        dueNodes(t, "1 - - - C(a(m0,m1),a(m0,m1))", "3 0 - 0 a(m0,m1)", "0 1 - - m0", "1 1 - - S(a(m0,m1))",
                "4 3 1 - a(m0,m1)", "3 0 - 1 a(m0,m1)", "0 5 - - m0", "1 5 - - S(a(m0,m1))", "4 7 5 - a(m0,m1)");
    }

    private static void unlikeKinds() {
        Talk.sentence("Of NODES above it of that kind (2, or 3)");
        // a STEP's is COUPLED in a SPLIT one's
        Talk t = Talk.told("a(Z,y)=y;g(z)=h(z,g(z));h(A,x)=Z;", "a(g(z),y)");
        dueNodes(t, "2 - - - a(g(m0),m1)", "3 0 - 0 a(h(m0,g(m0)),m1)", "2 1 - - a(Z,m0)", "0 2 - - m0");
        dueResidue(t, "a0(A,m0)=m0;", "a0(z,y)");
        // a SPLIT one's is COUPLED in a STEP's
        t = Talk.told("f(Z)=A;f(S(x))=B;g(x)=x;i(N)=f(g(S(Z)));", "f(i(x))");
        dueNodes(t, "3 - - 0 f(i(m0))", "2 0 - - f(f(g(S(Z))))", "2 1 - - f(f(S(Z)))", "6 2 - - f(B)");
        t = Talk.told("f(Z)=A;f(S(x))=B;i(N)=S(i(Z));", "f(i(x))");
        dueNodes(t, "3 - - 0 f(i(m0))", "2 0 - - f(S(i(Z)))", "1 1 - - B");
    }

    private static void letIsNoKind() {
        Talk.sentence("of that kind: what has become LET is none");
        Talk t = Talk.told("b(S(x),y)=b(x,S(y));b(T(x),y)=b(x,x);", "b(y,y)");
        dueNodes(t, "5 - - - b(m0,m0)", "3 0 - 0 b(m0,m1)", "5 1 - - b(m0,S(m1))", "4 2 1 - b(m0,m1)", "0 2 - - m0",
                "1 2 - - S(m0)", "0 5 - - m0", "5 1 - - b(m0,m0)", "4 7 1 - b(m0,m1)", "0 7 - - m0", "0 7 - - m0",
                "0 0 - - m0", "0 0 - - m0");
        Talk.due("tree(1)", t.x.tree(1), 14);
        dueResidue(t, "a0(S(m0),m1)=a0(m0,S(m1));a0(T(m0),m1)=a0(m0,m0);", "a0(y,y)");
    }

    private static void foldedAheadOfLet() {
        Talk.sentence("4 FOLDED: the first one of which it is a RENAMING: nothing below. Else the first one that is COUPLED");
        // f(x) is nearer and COUPLED in it
        Talk t = Talk.told("f(x)=h(x);h(S(x))=f(x);h(T(x))=f(S(x));", "f(S(x))");
        dueNodes(t, "2 - - 0 f(S(m0))", "2 0 - - h(S(m0))", "2 1 - 1 f(m0)", "3 2 - 2 h(m0)", "4 3 2 - f(m0)",
                "4 3 0 - f(S(m0))");
        Talk.due("how many below", t.x.node(5, 6), 0);
        dueResidue(t, "a0(m0)=a1(m0);a1(m0)=a2(m0);a2(S(m0))=a1(m0);a2(T(m0))=a0(m0);", "a0(x)");
    }

    private static void nearestCoupled() {
        Talk.sentence("the nearest first: else the first one whose EXPRESSION is COUPLED in it");
        Talk t = Talk.told("f(x)=h(x);h(S(x))=f(x);h(T(x))=f(S(S(x)));", "f(S(x))");
        dueNodes(t, "2 - - - f(S(m0))", "2 0 - - h(S(m0))", "2 1 - 0 f(m0)", "3 2 - 1 h(m0)", "4 3 2 - f(m0)",
                "5 3 - - f(S(S(m0)))", "4 5 2 - f(m0)", "1 5 - - S(S(m0))", "1 7 - - S(m0)", "0 8 - - m0");
        dueResidue(t, "a0(m0)=a1(m0);a1(S(m0))=a0(m0);a1(T(m0))=a0(S(S(m0)));", "a0(x)");
    }

    private static void coupledNotEmbedded() {
        Talk.sentence("whose EXPRESSION is COUPLED in it: EMBEDDED in an argument of it alone is not");
        Talk t = Talk.told("f(A,y)=f(D,f(A,y));f(D,y)=y;", "f(A,x)");
        dueNodes(t, "2 - - 0 f(A,m0)", "2 0 - - f(D,f(A,m0))", "4 1 0 - f(A,m0)");
        dueResidue(t, "a0(m0)=a0(m0);", "a0(x)");
        // the outermost ones are alike, and each argument is in the whole, but not in its own place
        t = Talk.told("g(A,y)=g(B,S(A));g(B,y)=y;", "g(A,S(x))");
        dueNodes(t, "2 - - - g(A,S(m0))", "2 0 - - g(B,S(A))", "1 1 - - S(A)", "1 2 - - A");
    }

    private static void letBelow() {
        Talk.sentence("is it an INSTANCE of that, it is 5 LET: below: that EXPRESSION, then by its VARS' ORDER what stands for these");
        Talk t = Talk.told("f(x,y)=f(S(y),T(x));", "f(x,y)");
        dueNodes(t, "2 - - 0 f(m0,m1)", "5 0 - - f(S(m0),T(m1))", "4 1 0 - f(m0,m1)", "1 1 - - S(m0)", "0 3 - - m0",
                "1 1 - - T(m0)", "0 5 - - m0");
        Talk.due("tree(5)", t.x.tree(5), 0);
        dueResidue(t, "a0(m0,m1)=a0(S(m1),T(m0));", "a0(x,y)");
        // a VAR that stands twice has one NODE; of one SIZE, too
        t = Talk.told("f(x,y)=f(y,y);", "f(x,y)");
        dueNodes(t, "2 - - 0 f(m0,m1)", "5 0 - - f(m0,m0)", "4 1 0 - f(m0,m1)", "0 1 - - m0", "0 1 - - m0");
        t = Talk.told("f(x,y)=f(S(x),S(x));", "f(z,z)");
        dueNodes(t, "2 - - 0 f(m0,m0)", "5 0 - - f(S(m0),S(m0))", "4 1 0 - f(m0,m0)", "1 1 - - S(m0)", "0 3 - - m0");
        dueResidue(t, "a0(m0)=a0(S(m0));", "a0(z)");
    }

    private static void aboveBecomesLet() {
        Talk.sentence("else that NODE above becomes 5 LET (all below it goes): below: the COMMON form, then its BINDINGS");
        Talk t = Talk.told("f(x,y)=g(D(x),y);g(x,y)=f(y,x);", "S(f(z,z))");
        // f(z,z), g(D(z),z), f(z,D(z)); then f(m,n), g(D(m),n), f(n,D(m)): that is an INSTANCE
        dueNodes(t, "1 - - - S(f(m0,m0))", "5 0 - - f(m0,m0)", "2 1 - 0 f(m0,m1)", "2 2 - - g(D(m0),m1)",
                "5 3 - - f(m0,D(m1))", "4 4 2 - f(m0,m1)", "0 4 - - m0", "1 4 - - D(m0)", "0 7 - - m0",
                "0 1 - - m0", "0 1 - - m0");
        Talk.due("tree(1)", t.x.tree(1), 13);
        Talk.due("tree(4)", t.x.tree(4), 2);
        Talk.due("tree(5)", t.x.tree(5), 1);
        dueResidue(t, "a0(m0,m1)=a0(m1,D(m0));", "S(a0(z,z))");
    }

    private static void bindingsOfAbove() {
        Talk.sentence("its BINDINGS: by its VARS' ORDER what of a stands there");
        Talk t = Talk.told("b(S(x),y)=b(x,T(y));", "b(x,A)");
        dueNodes(t, "5 - - - b(m0,A)", "3 0 - 0 b(m0,m1)", "5 1 - - b(m0,T(m1))", "4 2 1 - b(m0,m1)", "0 2 - - m0",
                "1 2 - - T(m0)", "0 5 - - m0", "0 0 - - m0", "1 0 - - A");
        dueResidue(t, "a0(S(m0),m1)=a0(m0,T(m1));", "a0(x,A)");
        // like pairs are one VAR, with one NODE
        t = Talk.told("b(S(x),y,z)=b(x,T(y),T(z));", "b(x,A,A)");
        dueNodes(t, "5 - - - b(m0,A,A)", "3 0 - 0 b(m0,m1,m1)", "5 1 - - b(m0,T(m1),T(m1))", "4 2 1 - b(m0,m1,m1)",
                "0 2 - - m0", "1 2 - - T(m0)", "0 5 - - m0", "0 0 - - m0", "1 0 - - A");
    }

    private static void casesInOrder() {
        Talk.sentence("for each CASE of that function, in the order told");
        Talk t = Talk.told("f(B)=A;g(A)=A;f(A)=B;f(A,x)=x;g(B)=B;f(C(x,y))=P(y,x);f0(D)=A;", "f(x)");
        dueNodes(t, "3 - - 0 f(m0)", "1 0 - - A", "1 0 - - B", "1 0 - - P(m0,m1)", "0 3 - - m0", "0 3 - - m0");
        dueResidue(t, "a0(B)=A;a0(A)=B;a0(C(m0,m1))=P(m1,m0);", "a0(x)");
    }

    private static void newVarsWherever() {
        Talk.sentence("the EXPRESSION with the CASE's CON of new VARS in place of that VAR, wherever it is, and then that STEP done");
        Talk t = Talk.told("e(C(x,y),z,t)=D(z,t,y,x);", "e(x,S(x),P(y,x))");
        dueNodes(t, "3 - - 0 e(m0,S(m0),P(m1,m0))", "1 0 - - D(S(C(m0,m1)),P(m2,C(m0,m1)),m1,m0)", "1 1 - - S(C(m0,m1))",
                "1 2 - - C(m0,m1)", "0 3 - - m0", "0 3 - - m0", "1 1 - - P(m0,C(m1,m2))", "0 6 - - m0",
                "1 6 - - C(m0,m1)", "0 8 - - m0", "0 8 - - m0", "0 1 - - m0", "0 1 - - m0");
        dueResidue(t, "a0(C(m0,m1),m2)=D(S(C(m0,m1)),P(m2,C(m0,m1)),m1,m0);", "a0(x,y)");
    }

    private static void newVarsUnlike() {
        Talk.sentence("new VARS: unlike all that are there");
        Talk t = Talk.told("e(C(x,y),w)=f(w,x,y);e(N,w)=N;f(C(z,t),x,y)=C(P(x,z),e(y,t));f(N,x,y)=N;", "e(x,y)");
        dueNodes(t, "3 - - 0 e(m0,m1)", "3 0 - 1 f(m0,m1,m2)", "1 1 - - C(P(m0,m1),e(m2,m3))", "1 2 - - P(m0,m1)",
                "0 3 - - m0", "0 3 - - m0", "4 2 0 - e(m0,m1)", "1 1 - - N", "1 0 - - N");
        dueResidue(t, "a0(C(m0,m1),m2)=a1(m2,m0,m1);a0(N,m0)=N;"
                + "a1(C(m0,m1),m2,m3)=C(P(m2,m0),a0(m3,m1));a1(N,m0,m1)=N;", "a0(x,y)");
        t = Talk.told("e(S(x),w)=f(w,x);f(C(z,t),x)=D(x,z,t,A);", "e(x,y)");
        Talk.due("drive()", t.x.drive(), 7);
        dueResidue(t, "a0(S(m0),m1)=a1(m1,m0);a1(C(m0,m1),m2)=D(m2,m0,m1,A);", "a0(x,y)");
        t = Talk.told("b(C(x,y),z)=P(x,b(y,S(z)));", "b(y,y)");
        Talk.due("drive()", t.x.drive(), 11);
        dueResidue(t, "a0(C(m0,m1),m2)=P(m0,a0(m1,S(m2)));", "a0(y,y)");
        // the COMMON form's VARS are new ones, too: those of the GOAL are put in their places
        t = Talk.told("b(S(x),y)=b(x,S(y));", "C(m,b(z,z),m0,n)");
        t.x.drive();
        dueResidue(t, "a0(S(m0),m1)=a0(m0,S(m1));", "C(m,a0(z,z),m0,n)");
    }

    private static void newVarsUnlikeNamed() {
        Talk.sentence("new VARS: unlike each that can be told");
        for (char letter = 'm'; letter <= 'z'; letter++) {
            for (int digits = -1; digits <= 99; digits++) {
                String var = letter + (digits < 0 ? "" : String.valueOf(digits));
                String other = var.equals("x") ? "y" : "x";
                Talk t = Talk.told("e(C(x,y),w)=f(w,x,y);", "e(" + other + "," + var + ")");
                Talk.due("drive() with " + var, t.x.drive(), 2);
                t.x.writeNode(1);
                Talk.due("below e with " + var, t.written(), "f(m0,m1,m2)");
            }
        }
    }

    /** A CON of so many things (1 to 40). */
    private static String things(int count) {
        StringBuilder out = new StringBuilder();
        int left = count;
        String close = "";
        while (left > 5) {
            out.append("D(Z,Z,Z,");
            close += ")";
            left -= 4;
        }
        String[] ends = {"", "Z", "S(Z)", "D(Z,Z)", "D(Z,Z,Z)", "D(Z,Z,Z,Z)"};
        return out.append(ends[left]).append(close).toString();
    }

    private static void eightyLooked() {
        Talk.sentence("-2, when 80 were LOOKED at, and one isn't yet");
        String program = "g()=" + things(40) + ";h()=" + things(37) + ";i()=" + things(38) + ";";
        Talk t = Talk.told(program, "C(g(),h())");
        Talk.due("drive()", t.x.drive(), 80);
        Talk.due("tree(0)", t.x.tree(0), 80);
        Talk.due("tree(1)", t.x.tree(1), 80);
        Talk.due("node(79, 0)", t.x.node(79, 0), 1);
        Talk.due("node(80, 0)", t.x.node(80, 0), -2);
        dueDrive(program, "C(g(),i())", -2);
    }

    /**
     * A GOAL that grows twice: 1 + 4 * levels NODES go each time, and 2 + levels of them were LOOKED
     * at. Of the 19 + 12 * levels NODES made, 29 + 4 * levels and the wrapping ones are LOOKED at.
     */
    private static Talk grower(int levels, String open, String close) {
        String right = Talk.nested("D(", levels, "b(x,z,t,S(t))", ",Z,Z,Z)");
        return Talk.told("b(S(x),y,z,t)=" + right + ";", open + "b(x,y,y,y)" + close);
    }

    private static void goneLookedCount() {
        Talk.sentence("-2, when 80 were LOOKED at: those gone, too");
        Talk t = grower(5, "S(".repeat(3) + "D(".repeat(7), ",Z,Z,Z)".repeat(7) + ")))");
        Talk.due("drive()", t.x.drive(), 68);
        Talk.due("tree(1)", t.x.tree(1), 80);
        Talk.due("tree(5)", t.x.tree(5), 2);
        t = grower(5, "S(".repeat(4) + "D(".repeat(7), ",Z,Z,Z)".repeat(7) + "))))");
        Talk.due("drive()", t.x.drive(), -2);
    }

    private static void goneMadeCount() {
        Talk.sentence("-2, or a 121st NODE would be made (those gone count)");
        Talk t = grower(8, "S(D(", ",Z,Z,Z))");
        Talk.due("drive()", t.x.drive(), 54);
        Talk.due("tree(1)", t.x.tree(1), 72);
        Talk.due("tree(5)", t.x.tree(5), 2);
        Talk.due("tree(6)", t.x.tree(6), 38);
        dueResidue(t, "a0(S(m0),m1,m2,m3)=" + Talk.nested("D(", 8, "a0(m0,m2,m3,S(m3))", ",Z,Z,Z)") + ";",
                "S(D(a0(x,y,y,y),Z,Z,Z))");
        Talk.due("121", grower(8, "S(S(D(", ",Z,Z,Z)))").x.drive(), -2);
        // each TO DRIVE counts anew
        for (int i = 0; i < 5; i++) {
            Talk.due("drive() again", t.x.drive(), 54);
            Talk.due("tree(5)", t.x.tree(5), 2);
        }
    }

    /** As many NODES are made when f is LOOKED at as the last row of CONS lets it be: 117 and more. */
    private static Talk madeAhead(int more, String cases) {
        String nine = Talk.nested("D(", 9, "?(x)", ",Z,Z,Z)");
        String ten = Talk.nested("S(", 9, "A", ")");
        String last = "D(P(f(x," + ten + ")" + ",Z".repeat(more - 1) + "),Z,Z,Z)";
        return Talk.told("b(x)=" + nine.replace('?', 'c') + ";c(x)=" + nine.replace('?', 'd') + ";d(x)="
                + nine.replace('?', 'e') + ";e(x)=" + last + ";" + cases, "b(x)");
    }

    private static void oneByOne() {
        Talk.sentence("-3, an EXPRESSION of SIZE above 40 would be a NODE's (asked ahead of that, as NODES are made one by one)");
        String small = "f(A,y)=Z;";
        String large = "f(B,y)=D(y,y,y,y);";
        Talk.due("118, small, large", madeAhead(1, small + large).x.drive(), -3);
        Talk.due("119, small, large", madeAhead(2, small + large).x.drive(), -3);
        Talk.due("120, small, large", madeAhead(3, small + large).x.drive(), -2);
        Talk.due("120, large, small", madeAhead(3, large + small).x.drive(), -3);
        Talk.due("119, large, small", madeAhead(2, large + small).x.drive(), -3);
        Talk.due("119, small, small", madeAhead(2, small + "f(B,y)=y;").x.drive(), -2);
    }

    private static void sizeOfNodes() {
        Talk.sentence("-3, an EXPRESSION of SIZE above 40 would be a NODE's");
        String ten = Talk.nested("S(", 9, "A", ")");
        String nine = Talk.nested("S(", 8, "A", ")");
        String program = "e(x,y)=D(x,x,x,y);f(A,x,y)=D(x,x,x,y);g(T(x),y)=D(y,y,y,C(x,x));";
        // by a STEP
        dueDrive(program, "e(" + ten + "," + nine + ")", 41);
        dueDrive(program, "e(" + ten + "," + ten + ")", -3);
        // by a SPLIT
        dueDrive(program, "f(x," + ten + "," + nine + ")", 41);
        dueDrive(program, "f(x," + ten + "," + ten + ")", -3);
        // it is too large ahead of the STEP alone: 19 + 18 things, 18 of them one more
        Talk t = Talk.told("h(T(x),y)=x;", "h(x,D(" + "D(x,x,x,x),".repeat(3) + "D(D(x,x,x,x),D(x,x,x,x),x,x)))");
        Talk.due("drive()", t.x.drive(), 2);
        t = Talk.told(program, "e(" + ten + "," + nine + ")");
        t.x.drive();
        Talk.due("tree(6)", t.x.tree(6), 40);
    }

    private static void sizeOfNodeZero() {
        Talk.sentence("SIZE above 40: NODE 0 too");
        dueDrive("", things(40), 40);
        Talk t = Talk.told("g()=" + things(20) + ";h()=" + things(19) + ";", "D(g(),h())");
        Talk.due("drive()", t.x.drive(), 42);
        t.x.take();
        Talk.due("is(3)", t.x.is(3), 40);
        Talk.due("drive()", t.x.drive(), 40);
        t = Talk.told("g()=" + things(20) + ";", "D(g(),g())");
        Talk.due("drive()", t.x.drive(), 43);
        t.x.take();
        Talk.due("is(3)", t.x.is(3), 41);
        Talk.due("drive()", t.x.drive(), -3);
        Talk.due("the GOAL stays", t.x.is(3), 41);
    }

    private static void eightArguments() {
        Talk.sentence("-4: a function out of it has more than 8 arguments");
        String program = "f(Z,x)=x;g(x)=g(x);h(x)=x;";
        String eight = "C(D(m,n,o),D(p,q,r),D(s,t))";
        String nine = "C(D(m,n,o),D(p,q,r),D(s,t,u))";
        // of a SPLIT one
        Talk t = Talk.told(program, "f(m," + eight + ")");
        Talk.due("drive()", t.x.drive() > 0 ? 1 : 0, 1);
        Talk.due("THE NEW GOAL", t.text(1), "a0(m,n,o,p,q,r,s,t)");
        dueDrive(program, "f(m," + nine + ")", -4);
        dueDrive(program, "S(f(m," + nine + "))", -4);
        // of a FOLDED one
        t = Talk.told(program, "g(" + eight + ")");
        Talk.due("drive()", t.x.drive(), 2);
        Talk.due("THE NEW GOAL", t.text(1), "a0(m,n,o,p,q,r,s,t)");
        dueDrive(program, "g(" + nine + ")", -4);
        // no function
        dueDrive(program, "h(" + nine + ")", 14);
        dueDrive(program, nine, 13);
    }

    private static String cases(String name, int count) {
        StringBuilder out = new StringBuilder();
        for (int i = 0; i < count; i++) {
            out.append(name).append('(').append((char) ('A' + i)).append(",x)=A;");
        }
        return out.toString();
    }

    private static void fortyClauses() {
        Talk.sentence("else -5: these have more than 40 CLAUSES together");
        Talk t = Talk.told(cases("g", 20), "C(g(x,Z),g(y,Z))");
        Talk.due("drive()", t.x.drive(), 43);
        Talk.due("tree(9)", t.x.tree(9), 40);
        Talk.due("take()", t.x.take(), 40);
        dueDrive(cases("g", 20) + cases("h", 19) + "i()=i();", "C(g(x,Z),h(y,Z),i())", 44);
        dueDrive(cases("g", 20) + "i()=i();", "C(g(x,Z),g(y,Z),i())", -5);
        dueDrive(cases("g", 21), "C(g(x,Z),g(y,Z))", -5);
    }

    private static final String REPEAT = "d(Z,x)=Z;d(S(y),x)=C(x,d(y,x));f(Z,n,o,p,q,r,s)=Z;";

    /** With more CASES of f. */
    private static String repeat(int more) {
        StringBuilder out = new StringBuilder(REPEAT);
        for (int i = 0; i < more; i++) {
            out.append("f(").append((char) ('A' + i)).append(",n,o,p,q,r,s)=Z;");
        }
        return out.toString();
    }

    private static void hundredComing() {
        Talk.sentence("else -6: what comes of a NODE would have a SIZE above 100");
        String eleven = "d(" + Talk.nested("S(", 11, "Z", ")") + ",f(m,n,o,p,q,r,s))";
        Talk t = Talk.told(REPEAT, eleven);
        Talk.due("drive()", t.x.drive() > 0 ? 1 : 0, 1);
        Talk.due("tree(10)", t.x.tree(10), 100);
        dueDrive(REPEAT, "S(" + eleven + ")", -6);
        // of another NODE than NODE 0
        String left = "g(A,m,n,o,p,q,r,s)=";
        t = Talk.told(REPEAT + left + eleven + ";", "g(x,m,n,o,p,q,r,s)");
        Talk.due("drive()", t.x.drive() > 0 ? 1 : 0, 1);
        Talk.due("tree(10)", t.x.tree(10), 9);
        t.x.take();
        Talk.due("clause(0, 0)", t.x.clause(0, 0), 100);
        dueDrive(REPEAT + left + "S(" + eleven + ");", "g(x,m,n,o,p,q,r,s)", -6);
    }

    private static void whichFirst() {
        Talk.sentence("when all were LOOKED at: -4 .. else -5 .. else -6");
        String nine = "C(D(m,n,o),D(p,q,r),D(s,t,u))";
        String many = cases("g", 21);
        String wide = "d(" + Talk.nested("S(", 11, "Z", ")") + ",f(m,n,o,p,q,r,s))";
        dueDrive(many, "C(g(x,Z),g(y," + nine + "))", -4);
        dueDrive(REPEAT + "h(Z,x)=Z;", "C(h(x," + nine + ")," + wide + ")", -4);
        // 11 times 4 CASES, 3 CASES
        dueDrive(repeat(3), "S(" + wide + ")", -5);
        dueDrive(repeat(2), "S(" + wide + ")", -6);
        dueDrive(REPEAT + cases("g", 10) + "h(Z,x)=Z;i()=" + things(40) + ";", "C(h(x," + nine + "),i(),i())", -2);
        String ten = Talk.nested("S(", 9, "A", ")");
        dueDrive("h(Z,x)=Z;e(x)=D(x,x,x,x);", "C(h(x," + nine + "),e(" + ten + "))", -3);
    }

    private static void noTreeThen() {
        Talk.sentence("Then, and at first, there is no tree, no RESIDUE.");
        dueNoTree(new Talk());
        dueNoTree(Talk.told(ADD, "a(x,y)"));
        String ten = Talk.nested("S(", 9, "A", ")");
        String nine = "C(D(m,n,o),D(p,q,r),D(s,t,u))";
        String program = REPEAT + cases("g", 21) + "h()=" + things(40) + ";e(x)=D(x,x,x,x);";
        String[] goals = {"C(h(),h())", "e(" + ten + ")", "g(x," + nine + ")", "C(g(x,Z),g(y,Z))",
            "S(d(" + Talk.nested("S(", 11, "Z", ")") + ",f(m,n,o,p,q,r,s)))"};
        for (int i = 0; i < goals.length; i++) {
            Talk t = Talk.told(program, "x");
            Talk.due("drive()", t.x.drive(), 1);
            t.goal(goals[i]);
            Talk.due("drive() of " + goals[i], t.x.drive(), -2 - i);
            dueNoTree(t);
            Talk.due("the PROGRAM stays", t.x.text(2), program.length());
            Talk.due("the GOAL stays", t.text(3), goals[i]);
        }
    }

    private static void dueNoTree(Talk t) {
        for (int what = 0; what <= 10; what++) {
            Talk.due("tree(" + what + ")", t.x.tree(what), NONE);
            Talk.due("node(0, " + what + ")", t.x.node(0, what), -2);
            Talk.due("ranked(0, " + what + ")", t.x.ranked(0, what), NONE);
            Talk.due("run(1, " + what + ")", t.x.run(1, what), NONE);
        }
        Talk.due("writeNode(0)", t.x.writeNode(0), NONE);
        Talk.due("text(0)", t.x.text(0), NONE);
        Talk.due("text(1)", t.x.text(1), NONE);
        Talk.due("result(1)", t.x.result(1), NONE);
        Talk.due("saved()", t.x.saved(), -1001);
        Talk.due("take()", t.x.take(), NONE);
    }

    private static void numbers() {
        Talk.sentence("NODES are numbered from 0 on, each ahead of what is below it, from the left");
        Talk t = Talk.told("", "C(D(x,A),B,S(S(y)))");
        dueNodes(t, "1 - - - C(D(m0,A),B,S(S(m1)))", "1 0 - - D(m0,A)", "0 1 - - m0", "1 1 - - A", "1 0 - - B",
                "1 0 - - S(S(m0))", "1 5 - - S(m0)", "0 6 - - m0");
        int[][] places = {{NONE, 0, 0, 1, 1, 2, 0, 0}, {0, 1, 2, 2, 1, 1, 2, 3}};
        for (int k = 0; k < 8; k++) {
            Talk.due("which below, of " + k, t.x.node(k, 2), places[0][k]);
            Talk.due("how deep, of " + k, t.x.node(k, 3), places[1][k]);
        }
    }

    private static void residueOfPlain() {
        Talk.sentence("RESIDUE: 0: the VAR; 6: !; 1: the CON of what comes of those below");
        Talk t = Talk.told("g()=A;", "C(x9,k(A),D(!,y),g())");
        t.x.drive();
        dueResidue(t, "", "C(x9,!,D(!,y),A)");
        Talk.due("tree(8)", t.x.tree(8), 0);
        Talk.due("tree(9)", t.x.tree(9), 0);
        Talk.due("tree(10)", t.x.tree(10), 7);
    }

    private static void residueOfLet() {
        Talk.sentence("5: what comes of the first one below, with what comes of the others in place of its VARS");
        // y stands twice in what comes of the first one, z in none
        Talk t = Talk.told("b(Z,x,y)=x;b(S(z),x,y)=b(z,C(x,x),D(y));", "b(x,A,B)");
        Talk.due("drive()", t.x.drive() > 0 ? 1 : 0, 1);
        dueResidue(t, "a0(Z,m0,m1)=m0;a0(S(m0),m1,m2)=a0(m0,C(m1,m1),D(m2));", "a0(x,A,B)");
        // what stands for a VAR is driven, too
        t = Talk.told("b(Z,x)=x;b(S(z),x)=b(z,f(x));f(x)=C(x,x);", "b(x,y)");
        Talk.due("drive()", t.x.drive() > 0 ? 1 : 0, 1);
        dueResidue(t, "a0(Z,m0)=m0;a0(S(m0),m1)=a0(m0,C(m1,m1));", "a0(x,y)");
        // all at once: what is put in has VARS of those names
        t = Talk.told("f(x,y)=f(S(y),T(x));", "f(x,y)");
        Talk.due("drive()", t.x.drive(), 7);
        dueResidue(t, "a0(m0,m1)=a0(S(m1),T(m0));", "a0(x,y)");
    }

    private static void residueOfStep() {
        Talk.sentence("2: what comes of that below, if none is FOLDED to it; else a call of its function, told AT ONCE");
        Talk t = Talk.told("f(x,y)=g(y,x);g(x,y)=C(x,g(y,x));", "f(x,y)");
        // g(y,x) is FOLDED to, f isn't
        dueNodes(t, "2 - - - f(m0,m1)", "2 0 - 0 g(m0,m1)", "1 1 - - C(m0,g(m1,m0))", "0 2 - - m0", "4 2 1 - g(m0,m1)");
        dueResidue(t, "a0(m0,m1)=C(m0,a0(m1,m0));", "a0(y,x)");
        Talk.due("tree(8)", t.x.tree(8), 1);
        t = Talk.told("i()=i();", "i()");
        Talk.due("drive()", t.x.drive(), 2);
        dueResidue(t, "a0()=a0();", "a0()");
        Talk.due("take()", t.x.take(), 1);
        Talk.due("is(2)", t.x.is(2), 1);
    }

    private static void residueOfSplit() {
        Talk.sentence("3: a call of its function (the VAR that BLOCKED first, then the others); by CASES: of that below each");
        Talk t = Talk.told("f(x,y)=g(y,x);g(A,x)=x;g(B(x,y),z)=C(z,y,x);g(D,x)=!;", "f(x,y)");
        Talk.due("drive()", t.x.drive() > 0 ? 1 : 0, 1);
        dueResidue(t, "a0(A,m0)=m0;a0(B(m0,m1),m2)=C(m2,m1,m0);a0(D,m0)=!;", "a0(y,x)");
        // one to which none is FOLDED has its function, too; a VAR is an argument once
        t = Talk.told("g(A,x,y)=C(x,y);", "g(x,y,C(x,y))");
        Talk.due("drive()", t.x.drive() > 0 ? 1 : 0, 1);
        dueResidue(t, "a0(A,m0)=C(m0,C(A,m0));", "a0(x,y)");
        // the new VARS come first on the left
        t = Talk.told("g(B(x,y),z,t)=C(t,z,y,x);", "g(g(x,y,z),s,t)");
        t.x.drive();
        Talk.due("the first CLAUSE", t.text(0).substring(0, 26), "a0(B(m0,m1),m2,m3,m4,m5)=!");
    }

    private static void residueOfFolded() {
        Talk.sentence("4: a call of the function of that NODE, with its own VARS in place of those that they are RENAMINGS of");
        Talk t = Talk.told("f(Z,x,y)=x;f(S(z),x,y)=f(z,y,x);", "f(x,y,z)");
        Talk.due("drive()", t.x.drive() > 0 ? 1 : 0, 1);
        dueResidue(t, "a0(Z,m0,m1)=m0;a0(S(m0),m1,m2)=a0(m0,m2,m1);", "a0(x,y,z)");
        t = Talk.told("h(x,y,z)=h(y,z,x);", "h(x,y,z)");
        Talk.due("drive()", t.x.drive(), 2);
        dueResidue(t, "a0(m0,m1,m2)=a0(m1,m2,m0);", "a0(x,y,z)");
    }

    private static void functionNames() {
        Talk.sentence("Functions of NODES: named a0, a1, .. by the NODES' numbers; in each CLAUSE VARS are m0, m1, ..");
        StringBuilder program = new StringBuilder();
        StringBuilder residue = new StringBuilder();
        for (int i = 0; i < 12; i++) {
            program.append("g").append(i).append("(Z,x)=").append("S(".repeat(i)).append("x").append(")".repeat(i)).append(';');
            residue.append("a").append(i).append("(Z,m0)=").append("S(".repeat(i)).append("m0").append(")".repeat(i)).append(';');
        }
        // the 12 are told from the left
        String goal = "C(D(g0(x,y),g1(x,y),g2(x,y)),D(g3(x,y),g4(x,y),g5(x,y)),D(g6(x,y),g7(x,y),g8(x,y)),D(g9(x,y)))";
        Talk t = Talk.told(program.toString(), goal);
        Talk.due("drive()", t.x.drive() > 0 ? 1 : 0, 1);
        Talk.due("THE NEW GOAL", t.text(1), goal.replace('g', 'a'));
        t = Talk.told(program.toString(), goal);
        t.x.drive();
        Talk.due("the RESIDUE", t.text(0), residue.substring(0, residue.indexOf("a10(")));
        t = Talk.told(program.toString(), "C(D(g0(x,y),g1(x,y),g2(x,y)),D(g3(x,y),g4(x,y),g5(x,y)),D(g6(x,y),g7(x,y)),D(S(g11(x,y))))");
        t.x.drive();
        Talk.due("names go on by the function's place", t.x.tree(8), 9);
        t = Talk.told("g(Z)=Z;h(x)=C(D(g(x),g(x),g(x),g(x)),D(g(x),g(x),g(x),g(x)),D(g(x),g(x),g(x),g(x)));", "h(y)");
        t.x.drive();
        Talk.due("THE NEW GOAL", t.text(1),
                "C(D(a0(y),a1(y),a2(y),a3(y)),D(a4(y),a5(y),a6(y),a7(y)),D(a8(y),a9(y),a10(y),a11(y)))");
    }

    private static void newGoalVars() {
        Talk.sentence("THE NEW GOAL: what comes of NODE 0, VARS as in the GOAL");
        Talk t = Talk.told(ADD, "C(z99,a(y10,m),m0)");
        t.x.drive();
        Talk.due("THE NEW GOAL", t.text(1), "C(z99,a0(y10,m),m0)");
        // of NODE 0 that became LET
        t = Talk.told("b(S(x),y)=b(x,S(y));", "b(z99,z99)");
        t.x.drive();
        Talk.due("THE NEW GOAL", t.text(1), "a0(z99,z99)");
    }
}
