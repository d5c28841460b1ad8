import java.util.List;

/** Terms I: a test for each sentence on NAMES, EXPRESSIONS, PROGRAMS, and on the FAULT of a text. */
public final class TextTermsTest {
    private static final int NONE = -1;
    /** A byte with which nothing goes on. */
    private static final char NO_SIGN = '?';

    public static void main(String[] args) {
        lettersOfFunctions();
        digitsOfFunctions();
        lettersOfVars();
        digitsOfVars();
        lettersOfCons();
        argumentsOfCons();
        argumentsOfFunctions();
        stuckSign();
        unlikeFunctions();
        unlikeCons();
        size();
        order();
        noBlanks();
        clauseForm();
        fortyClauses();
        varsAlone();
        allUnlike();
        onceOneClause();
        firstOneCon();
        varsOfCon();
        elevenVars();
        rightOfLeft();
        firstWrongByte();
        endsTooEarly();
        leftSecondTime();
        rightNotLeft();
        toldAgain();
        askedAtEqualSign();
        clause41();
        size41();
        size41OfEach();
        inTwenty();
        inTwentyOfEach();
        Talk.finish("TextTermsTest");
    }

    private static int tell(Talk t, char what, String text) {
        switch (what) {
            case 'p':
                return t.program(text);
            case 'g':
                return t.goal(text);
            case 'b':
                return t.bind(text);
            default:
                return t.expression(what - '0', text);
        }
    }

    /** Texts that a call takes, each on a new object. */
    private static void well(char what, String... texts) {
        for (String text : texts) {
            Talk t = new Talk();
            int answer = tell(t, what, text);
            Talk.due("fault() of " + what + " " + text, t.x.fault(), NONE);
            Talk.due("a FAULT in " + what + " " + text, answer == NONE ? 1 : 0, 0);
        }
    }

    private static void faulty(char what, String text, int at) {
        Talk t = new Talk();
        t.dueFault(what + " " + text, tell(t, what, text), at);
    }

    private static void lettersOfFunctions() {
        Talk.sentence("functions: a letter a .. l");
        for (char c = 'a'; c <= 'l'; c++) {
            well('g', c + "()", c + "(x)", c + "(" + c + "())");
            well('p', c + "()=A;", "a(x)=" + c + "(x);");
        }
        faulty('g', "`()", 0);
        faulty('g', "m()", 1);
        faulty('p', "`()=A;", 0);
        faulty('p', "m()=A;", 0);
        faulty('p', "A()=A;", 0);
        // a with its highest bit
        faulty('g', (char) ('a' + 128) + "()", 0);
    }

    private static void digitsOfFunctions() {
        Talk.sentence("functions: up to two digits (0 alone, or the first one not 0)");
        for (int n = 0; n <= 99; n++) {
            well('g', "a" + n + "()", "l" + n + "(x)");
        }
        Talk t = new Talk();
        Talk.due("names are unlike", t.program("a()=A;a0()=B;a1()=C;a10()=D;a99()=E;b()=F;"), 6);
        String[] goals = {"a()", "a0()", "a1()", "a10()", "a99()", "b()"};
        for (int i = 0; i < goals.length; i++) {
            t.goal(goals[i]);
            Talk.due("result of " + goals[i], t.result(0), String.valueOf((char) ('A' + i)));
        }
        faulty('g', "a00()", 2);
        faulty('g', "a01()", 2);
        faulty('g', "a09()", 2);
        faulty('g', "a100()", 3);
        faulty('g', "a999()", 3);
        faulty('g', "a/()", 1);
        faulty('g', "a:()", 1);
        faulty('g', "a1/()", 2);
        faulty('g', "a1:()", 2);
        faulty('p', "a00()=A;", 2);
        faulty('p', "a100()=A;", 3);
        faulty('g', "1a()", 0);
    }

    private static void lettersOfVars() {
        Talk.sentence("VARS: m .. z, likewise");
        for (char c = 'm'; c <= 'z'; c++) {
            well('g', "" + c, "A(" + c + ")");
            well('p', "a(" + c + ")=" + c + ";", "a(A(" + c + "))=" + c + ";");
            well('b', c + "=A");
        }
        faulty('g', "l", 1);
        faulty('g', "{", 0);
        faulty('p', "a(l)=A;", 2);
        faulty('p', "a({)=A;", 2);
        faulty('p', "a(A(l))=A;", 4);
        faulty('p', "a(A({))=A;", 4);
        faulty('b', "l=A", 0);
        faulty('b', "{=A", 0);
        faulty('b', "A=A", 0);
        faulty('g', "" + (char) ('z' + 128), 0);
    }

    private static void digitsOfVars() {
        Talk.sentence("VARS: likewise up to two digits");
        for (int n = 0; n <= 99; n++) {
            well('g', "m" + n, "A(z" + n + ")");
            well('p', "a(y" + n + ")=y" + n + ";", "a(A(x,x" + n + "))=x" + n + ";");
            well('b', "o" + n + "=A");
        }
        Talk t = new Talk();
        t.goal("C(x,x0,x1,x10)");
        Talk.due("names are unlike", t.x.is(4), 4);
        t.bind("x0=A;x10=B");
        Talk.due("result", t.result(0), "C(x,A,x1,B)");
        faulty('g', "x00", 2);
        faulty('g', "x01", 2);
        faulty('g', "x100", 3);
        faulty('g', "x/", 1);
        faulty('g', "x:", 1);
        faulty('g', "x1/", 2);
        faulty('g', "x1:", 2);
        faulty('p', "a(x00)=A;", 4);
        faulty('p', "a(x100)=A;", 5);
        faulty('b', "x00=A", 2);
        faulty('b', "x100=A", 3);
    }

    private static void lettersOfCons() {
        Talk.sentence("CONS: a letter A .. Z");
        for (char c = 'A'; c <= 'Z'; c++) {
            well('g', "" + c, c + "(x)");
            well('p', "a(" + c + ")=" + c + ";", "a(" + c + "(x))=" + c + "(x);");
            well('b', "x=" + c + "(" + c + ")");
        }
        for (char c : new char[] {'@', '[', (char) ('A' + 128), 0, 127, 255}) {
            faulty('g', "" + c, 0);
            faulty('p', "a(" + c + ")=A;", 2);
            faulty('b', "x=" + c, 2);
        }
        // no digits
        faulty('g', "A0", 1);
        faulty('p', "a(A0)=A;", 3);
    }

    private static void argumentsOfCons() {
        Talk.sentence("a CON, perhaps with ( EXPRESSION {, EXPRESSION} ) (1 to 4)");
        well('g', "C", "C(x)", "C(x,y)", "C(x,y,z)", "C(x,y,z,t)", "C(a(),!,C(A),x)");
        faulty('g', "C()", 2);
        faulty('g', "C(x,y,z,t,u)", 9);
        faulty('g', "C(C(A,B,C,D,E))", 11);
        faulty('g', "C(x,)", 4);
        faulty('g', "C(,x)", 2);
        faulty('g', "C(x,,y)", 4);
        faulty('b', "x=C()", 4);
        faulty('b', "x=C(A,B,C,D,E)", 11);
        well('b', "x=C(A,B,C,D)");
    }

    private static void argumentsOfFunctions() {
        Talk.sentence("a function with ( ) or ( EXPRESSION {, EXPRESSION} ) (0 to 8)");
        StringBuilder arguments = new StringBuilder("A");
        well('g', "a()");
        for (int n = 1; n <= 8; n++) {
            well('g', "a(" + arguments + ")");
            Talk t = new Talk();
            Talk.due("SIZE", t.goal("a(" + arguments + ")"), n + 1);
            arguments.append(",A");
        }
        faulty('g', "a(" + arguments + ")", 17);
        faulty('p', "b()=a(" + arguments + ");", 21);
        faulty('g', "a", 1);
        faulty('g', "a;", 1);
        faulty('g', "a(,x)", 2);
        faulty('g', "a(x,)", 4);
        faulty('g', "a()x", 3);
    }

    private static void stuckSign() {
        Talk.sentence("! (STUCK)");
        well('g', "!", "a(!)", "C(!,!)");
        well('p', "a()=!;", "a(x)=C(!,x);");
        faulty('g', "!()", 1);
        faulty('g', "!!", 1);
        faulty('g', "!0", 1);
        faulty('p', "!()=A;", 0);
        faulty('p', "a(!)=A;", 2);
        faulty('p', "a(A(!))=A;", 4);
        faulty('b', "x=!", 2);
        faulty('b', "!=A", 0);
    }

    private static void unlikeFunctions() {
        Talk.sentence("functions with unlike many arguments are unlike");
        Talk t = Talk.told("a()=A;a(x)=B;a(Z,x)=D;a(x,y,z)=E;", "C(a(),a(Z),a(Z,Z),a(Z,Z,Z))");
        Talk.due("is(1)", t.x.is(1), 4);
        Talk.due("is(2)", t.x.is(2), 3);
        Talk.due("result", t.result(0), "C(A,B,D,E)");
        t.goal("a(Z,Z,Z,Z)");
        Talk.due("run(0, 0)", t.x.run(0, 0), 1);
        t.expression(0, "a(x)");
        t.expression(1, "a(x,y)");
        Talk.due("INSTANCE", t.x.relation(1, 0, 1), 0);
        Talk.due("EMBEDDED", t.x.relation(0, 1, 2), 0);
        Talk.due("common", t.x.common(0, 1), 2);
        Talk.due("written", t.written(), "m0");
    }

    private static void unlikeCons() {
        Talk.sentence("CONS with unlike many arguments are unlike");
        Talk t = Talk.told("a(C)=A;a(C(x))=B;a(C(x,y))=D;", "P(a(C),a(C(Z)),a(C(Z,Z)))");
        Talk.due("is(0)", t.x.is(0), 3);
        Talk.due("result", t.result(0), "P(A,B,D)");
        t.goal("a(C(Z,Z,Z))");
        Talk.due("run(0, 0)", t.x.run(0, 0), 1);
        t.expression(0, "C(x)");
        t.expression(1, "C(x,y)");
        Talk.due("RENAMING", t.x.relation(0, 1, 0), 0);
        Talk.due("EMBEDDED", t.x.relation(0, 1, 2), 0);
        Talk.due("common", t.x.common(0, 1), 2);
    }

    private static void size() {
        Talk.sentence("SIZE: how many VARS, CONS, functions, ! stand in it");
        String[] texts = {"x", "A", "a()", "!", "C(x,x)", "a(x,A,!,b(),x,C(x12,!))"};
        int[] sizes = {1, 1, 1, 1, 3, 9};
        for (int i = 0; i < texts.length; i++) {
            Talk t = new Talk();
            Talk.due("goal " + texts[i], t.goal(texts[i]), sizes[i]);
            Talk.due("expression " + texts[i], t.expression(3, texts[i]), sizes[i]);
            Talk.due("of(3, 0)", t.x.of(3, 0), sizes[i]);
            Talk.due("is(3)", t.x.is(3), sizes[i]);
        }
    }

    private static void order() {
        Talk.sentence("ORDER of its VARS: as they come first, from the left");
        Talk t = new Talk();
        t.expression(0, "C(b(z,y),z,D(x,y))");
        Talk.due("of(0, 1)", t.x.of(0, 1), 3);
        t.goal("C(b(z,y),z,D(x,y))");
        t.x.drive();
        Talk.due("writeNode(0)", t.x.writeNode(0), 23);
        Talk.due("written", t.written(), "C(b(m0,m1),m0,D(m2,m1))");
    }

    private static void noBlanks() {
        Talk.sentence("No blanks anywhere.");
        dueBlanks('g', "a(x1,C(A,!,b()),y)");
        dueBlanks('p', "a(C(x,y1),z12)=b(x,!,c());");
        dueBlanks('p', "a()=A;b()=B;");
        dueBlanks('b', "x=A;y1=C(A,B)");
        dueBlanks('2', "a(x,C(A,!,b()),y)");
    }

    /** A text with a blank at each place: it goes on nowhere. */
    private static void dueBlanks(char what, String text) {
        for (char blank : new char[] {' ', '\n', '\t', 0, 160}) {
            for (int k = 0; k <= text.length(); k++) {
                faulty(what, text.substring(0, k) + blank + text.substring(k), k);
            }
        }
    }

    private static void clauseForm() {
        Talk.sentence("CLAUSES, each NAME ( PATTERNS ) = EXPRESSION ;");
        well('p', "", "a()=A;", "a(x)=x;b(x)=x;", "a(x,y,z)=b(y,a(z,!,x));");
        faulty('p', "a=A;", 1);
        faulty('p', "a()A;", 3);
        faulty('p', "a()=;", 4);
        faulty('p', "a()=A", 5);
        faulty('p', "a()=A;;", 6);
        faulty('p', ";", 0);
        faulty('p', "a()=A,", 5);
        faulty('p', "a()==A;", 4);
        faulty('p', "a()=A=B;", 5);
        faulty('p', "a(x=x;", 3);
    }

    private static String clauses(int count) {
        StringBuilder out = new StringBuilder();
        for (int i = 0; i < count; i++) {
            out.append('a').append(i).append("()=A;");
        }
        return out.toString();
    }

    private static void fortyClauses() {
        Talk.sentence("CLAUSES (40 at most)");
        Talk.due("39", new Talk().program(clauses(39)), 39);
        Talk.due("41", new Talk().program(clauses(41)), NONE);
        Talk t = new Talk();
        Talk.due("40", t.program(clauses(40)), 40);
        t.dueFault("41", t.program(clauses(41)), clauses(40).length());
        Talk.due("is(0)", t.x.is(0), 40);
        Talk.due("clause(39, 0)", t.x.clause(39, 0), 1);
        Talk.due("clause(40, 0)", t.x.clause(40, 0), NONE);
        Talk.due("text(2)", t.text(2), clauses(40));
    }

    private static void varsAlone() {
        Talk.sentence("PATTERNS: VARS with , between (0 to 8)");
        well('p', "a()=A;", "a(m)=m;", "a(m,n,o,p,q,r,s,t)=t;");
        Talk t = Talk.told("a(m,n,o,p,q,r,s,t)=C(D(m,n,o,p),D(q,r,s,t));", "a(A,B,C,D,E,F,G,H)");
        Talk.due("clause(0, 1)", t.x.clause(0, 1), 8);
        Talk.due("result", t.result(0), "C(D(A,B,C,D),D(E,F,G,H))");
        faulty('p', "a(m,n,o,p,q,r,s,t,u)=A;", 17);
        faulty('p', "a(,m)=m;", 2);
        faulty('p', "a(m,)=m;", 4);
        faulty('p', "a(m,,n)=m;", 4);
        faulty('p', "a(m;n)=m;", 3);
        faulty('p', "a(m(n))=m;", 3);
    }

    private static void allUnlike() {
        Talk.sentence("VARS, all unlike");
        well('p', "a(x,x0,x1,x10)=x;", "a(A(x,x0),x1,x10)=x;", "a(x)=x;b(x)=x;", "a(A(x))=x;a(B(x))=x;");
        faulty('p', "a(x,x)=A;", 4);
        faulty('p', "a(x,y,z,x)=A;", 8);
        faulty('p', "a(A(x,y,x))=A;", 8);
        faulty('p', "a(A(x,y),y)=A;", 9);
        faulty('p', "a(x10,x1,x10)=A;", 9);
    }

    private static void onceOneClause() {
        Talk.sentence("a function told AT ONCE (one CLAUSE)");
        Talk t = Talk.told("a(x)=A;b()=B;", "!");
        Talk.due("is(1)", t.x.is(1), 2);
        Talk.due("is(2)", t.x.is(2), 2);
        faulty('p', "a(x)=A;a(x)=A;", 7);
        faulty('p', "b()=A;b()=A;", 6);
    }

    private static void firstOneCon() {
        Talk.sentence("or the first one is a CON: one CASE of it");
        well('p', "a(A)=A;", "a(A,x)=x;", "a(A,m,n,o,p,q,r,s)=s;", "a(A)=A;a(B)=A;a(C)=A;");
        faulty('p', "a(x,A)=A;", 4);
        faulty('p', "a(A,B)=A;", 4);
        faulty('p', "a(A(x),B)=A;", 7);
        faulty('p', "a(A,m,n,o,p,q,r,s,t)=A;", 17);
        Talk t = Talk.told("a(A)=B;b(x)=x;a(B)=A;", "C(a(A),a(B))");
        Talk.due("is(1)", t.x.is(1), 2);
        Talk.due("is(2)", t.x.is(2), 1);
        Talk.due("result", t.result(0), "C(B,A)");
    }

    private static void varsOfCon() {
        Talk.sentence("a CON, perhaps with VARS in ( ) (1 to 4)");
        well('p', "a(A)=A;", "a(A(x))=x;", "a(A(x,y))=y;", "a(A(x,y,z))=z;", "a(A(x,y,z,t))=t;");
        faulty('p', "a(A())=A;", 4);
        faulty('p', "a(A(x,y,z,t,u))=A;", 11);
        faulty('p', "a(A(x,))=A;", 6);
        faulty('p', "a(A(,x))=A;", 4);
        faulty('p', "a(A(x;y))=A;", 5);
        faulty('p', "a(A(x(y)))=A;", 5);
        faulty('p', "a(A(B))=A;", 4);
        faulty('p', "a(A(B(x)))=A;", 4);
        faulty('p', "a(A(b()))=A;", 4);
        faulty('p', "a(A(x)=A;", 6);
        faulty('p', "a(A(x)x)=A;", 6);
    }

    private static void elevenVars() {
        Talk.sentence("a CON with 4 VARS, and 7 VARS behind it");
        Talk t = Talk.told("a(A(m,n,o,p),q,r,s,t,u,v,w)=C(C(m,n,o,p),C(q,r,s,t),C(u,v,w));",
                "a(A(A,B,C,D),E,F,G,H,I,J,K)");
        Talk.due("result", t.result(0), "C(C(A,B,C,D),C(E,F,G,H),C(I,J,K))");
        Talk.due("text(2)", t.text(2), "a(A(m,n,o,p),q,r,s,t,u,v,w)=C(C(m,n,o,p),C(q,r,s,t),C(u,v,w));");
    }

    private static void rightOfLeft() {
        Talk.sentence("On the right only VARS of the left.");
        well('p', "a(x,y)=A;", "a(x,y)=C(y,y,x);", "a(A(x),y)=C(y,x);");
        faulty('p', "a()=x;", 4);
        faulty('p', "a(A)=x;", 5);
        faulty('p', "a(A(x),y)=C(y,x,z);", 16);
        // those of another CLAUSE are not of the left
        faulty('p', "a(x)=x;b(y)=x;", 12);
        faulty('p', "a(A(x))=x;a(B(y))=x;", 18);
    }

    private static void firstWrongByte() {
        Talk.sentence("The FAULT of a text: the first byte with which no such text goes on");
        dueWrongBytes('p', "a(C(x,y),z,t)=D(b(x,z,A),!,y);b(N,x)=c();");
        dueWrongBytes('g', "a(x,C(y,A,!),b(),d(e(z)))");
        dueWrongBytes('b', "x=A;y=C(A,B(D))");
        dueWrongBytes('0', "C(a(x),!,D(y,A,A,A))");
        // a thing where a , or a ) or a ; is due
        String[] goals = {"C(AB)", "C(Ax)", "a(x!)", "a(xb())", "a(!x)", "C(A(B)D)", "a(b()A)", "C(A,BD)", "Ax", "a()b()"};
        int[] places = {3, 3, 3, 3, 3, 6, 5, 5, 1, 3};
        for (int i = 0; i < goals.length; i++) {
            faulty('g', goals[i], places[i]);
            faulty('3', goals[i], places[i]);
            faulty('p', "a()=" + goals[i].replace('x', 'A') + ";", places[i] + 4);
        }
        faulty('p', "a(xy)=x;", 3);
        faulty('p', "a(Ax)=x;", 3);
        faulty('p', "a(A(xy))=x;", 5);
        faulty('p', "a(A(x)y)=x;", 6);
        faulty('p', "a()=Ab()=B;", 5);
        faulty('b', "x=C(AB)", 5);
        faulty('b', "x=Ay=B", 3);
        faulty('b', "x=C(A)B", 6);
        // the first one of many
        faulty('g', "a(x??", 3);
        faulty('g', "a(?,?)", 2);
    }

    /** A text with each byte in turn taken by one that never goes on. */
    private static void dueWrongBytes(char what, String text) {
        well(what, text);
        for (int k = 0; k < text.length(); k++) {
            faulty(what, text.substring(0, k) + NO_SIGN + text.substring(k + 1), k);
        }
        faulty(what, text + NO_SIGN, text.length());
    }

    private static void endsTooEarly() {
        Talk.sentence("(its length, if it ends too early)");
        dueEnds('p', "a(C(x,y),z,t)=D(b(x,z,A),!,y);");
        dueEnds('g', "a(x,C(y,A,!),b(),d(e(z)))");
        dueEnds('3', "b(a(x),!,D(y,A,A,A))");
        dueEnds('b', "x=C(B,A);y=D(B(A,D));", 3, 8, 12, 20);
        faulty('g', "", 0);
        faulty('0', "", 0);
        faulty('b', "x=A;", 4);
        faulty('p', "a()=A;b", 7);
    }

    /** Each beginning of a text but the empty one; those with the lengths told are well. */
    private static void dueEnds(char what, String text, Integer... whole) {
        for (int k = 1; k < text.length(); k++) {
            if (List.of(whole).contains(k)) {
                well(what, text.substring(0, k));
            } else {
                faulty(what, text.substring(0, k), k);
            }
        }
    }

    private static void leftSecondTime() {
        Talk.sentence("a VAR at its first byte: on the left a second time");
        faulty('p', "a(x12,y,x12)=A;", 8);
        faulty('p', "a(A(x12,x12))=A;", 8);
        faulty('p', "a(A(x12),x12)=A;", 9);
        faulty('p', "b()=A;a(x,y,x,y)=A;", 12);
    }

    private static void rightNotLeft() {
        Talk.sentence("a VAR at its first byte: on the right, and not on the left");
        faulty('p', "a(x)=y12;", 5);
        faulty('p', "a(x)=C(x,D(x12));", 11);
        faulty('p', "a(x12)=C(x12,x1);", 13);
        faulty('p', "a(x12)=C(x12,x);", 13);
    }

    private static void toldAgain() {
        Talk.sentence("a function at the first byte of its CLAUSE: told AT ONCE ahead of it");
        faulty('p', "a12(x)=x;b()=A;a12(y)=y;", 15);
        faulty('p', "a(x)=x;a(A)=A;", 7);
        faulty('p', "a(x,y)=x;a(A(y),x)=A;", 9);
        Talk.sentence("a function at the first byte of its CLAUSE: AT ONCE with CASES ahead of it");
        faulty('p', "a(A)=A;b()=A;a(x)=A;", 13);
        faulty('p', "a(A,x)=A;a(B(x),y)=A;a(x,y)=A;", 21);
        Talk.sentence("a function at the first byte of its CLAUSE: that CASE again");
        faulty('p', "a(A)=A;a(B)=A;a(A)=A;", 14);
        faulty('p', "a(A(x),y)=A;a(A(y),x)=A;", 12);
        well('p', "a(A)=A;a(A(x))=A;a(A(x,y))=A;a(A,x)=A;b(A)=A;a0(A)=A;");
    }

    private static void askedAtEqualSign() {
        Talk.sentence("(asked behind its PATTERNS, at the =)");
        faulty('p', "a(x,y)=x;a(y,y)=y;", 13);
        faulty('p', "a(x)=x;a(?", 9);
        faulty('p', "a(x)=x;a(y", 10);
        // the = has to be there (as NOTES.md reads it)
        faulty('p', "a(x)=x;a(y)", 11);
        faulty('p', "a(x)=x;a(y)?", 11);
        faulty('p', "a(x)=x;a(y)=", 7);
        faulty('p', "a(x)=x;a(y)=?", 7);
        faulty('p', "a(x)=x;a(y)=z;", 7);
        faulty('p', "a(A)=A;a(A)=b;", 7);
        // its PATTERNS make it another function
        well('p', "a(x)=x;a(x,y)=y;");
    }

    private static void clause41() {
        Talk.sentence("a 41st CLAUSE at its first byte");
        String forty = clauses(40);
        faulty('p', forty + "b()=A;", forty.length());
        faulty('p', forty + "b", forty.length());
        faulty('p', forty + NO_SIGN, forty.length());
        faulty('p', forty + "a0()=A;", forty.length());
        faulty('p', forty + forty, forty.length());
        // what is wrong in an earlier one comes first
        faulty('p', clauses(39) + "b();" + clauses(1), clauses(39).length() + 3);
    }

    /** An EXPRESSION of SIZE 39, the last argument and the ) of which are not there yet. */
    private static String open39(String leaf) {
        String four = "C(" + leaf + "," + leaf + "," + leaf + "," + leaf + ")";
        return "D(D(" + four + "," + four + "," + four + "," + four + "),D(" + four + "," + four + "," + four + "),A";
    }

    private static void size41() {
        Talk.sentence("a thing that makes its SIZE 41, at its first byte");
        String open = open39("A");
        Talk t = new Talk();
        Talk.due("SIZE 39", t.goal(open + ")"), 39);
        Talk.due("SIZE 40", t.goal(open + ",A)"), 40);
        for (String fortieth : new String[] {"A", "x12", "!", "b12()"}) {
            Talk.due("SIZE 40 with " + fortieth, t.goal(open + "," + fortieth + ")"), 40);
        }
        for (String thing : new String[] {"B", "x12", "!", "b12()", "b(x)", "B(A)"}) {
            faulty('g', open + ",S(" + thing + "))", open.length() + 3);
        }
        faulty('g', open + ",S(", open.length() + 3);
        faulty('g', open + ",S(?", open.length() + 3);
        well('g', open + ",b())");
    }

    private static void size41OfEach() {
        Talk.sentence("SIZE 41: of a right side, or any EXPRESSION told");
        String open = open39("B");
        for (char what : new char[] {'g', '0', '3'}) {
            well(what, open + ",B)");
            faulty(what, open + ",S(B))", open.length() + 3);
        }
        well('p', "a()=" + open + ",B);");
        faulty('p', "a()=" + open + ",S(B));", open.length() + 7);
        well('b', "x=" + open + ",B)");
        faulty('b', "x=" + open + ",S(B))", open.length() + 5);
        // each by itself
        well('p', "a()=" + open + ",B);b()=" + open + ",B);c()=" + open + ",B);");
        well('b', "x=" + open + ",B);y=" + open + ",B);z=A");
        // a right side of VARS, each behind a left side
        String open2 = open39("x");
        well('p', "a(x)=" + open2 + ",x);");
        faulty('p', "a(x)=" + open2 + ",S(x));", open2.length() + 8);
    }

    private static void inTwenty() {
        Talk.sentence("a thing that lies in 20 ( already, at its first byte");
        for (String thing : new String[] {"A", "x12", "!", "b12()"}) {
            well('g', Talk.nested("S(", 19, thing, ")"), Talk.nested("b(", 19, thing, ")"));
            faulty('g', Talk.nested("S(", 20, thing, ")"), 40);
            faulty('g', Talk.nested("b1(", 20, thing, ")"), 60);
            faulty('g', Talk.nested("S(", 25, thing, ")"), 40);
        }
        faulty('g', "S(".repeat(20), 40);
        // a ( that is closed again holds nothing more
        well('g', "C(" + Talk.nested("S(", 18, "A", ")") + "," + Talk.nested("S(", 18, "A", ")") + ")");
        faulty('g', "C(A," + Talk.nested("S(", 19, "A", ")") + ")", 42);
        faulty('g', "C(A,b()," + Talk.nested("S(", 19, "A", ")") + ")", 46);
        // nothing lies in the 20th (
        well('g', Talk.nested("S(", 19, "b()", ")"));
        Talk t = new Talk();
        t.expression(0, Talk.nested("S(", 19, "b()", ")"));
        Talk.due("of(0, 2)", t.x.of(0, 2), 20);
    }

    private static void inTwentyOfEach() {
        Talk.sentence("20 (: of a right side, or any EXPRESSION told");
        String well = Talk.nested("S(", 19, "A", ")");
        String deep = Talk.nested("S(", 20, "A", ")");
        for (char what : new char[] {'g', '0', '3'}) {
            well(what, well);
            faulty(what, deep, 40);
        }
        well('b', "x=" + well + ";y=" + well);
        faulty('b', "x=" + deep, 42);
        well('p', "a()=" + well + ";");
        faulty('p', "a()=" + deep + ";", 44);
        // the ( of the left side is not about it
        well('p', "a(x)=" + Talk.nested("S(", 19, "x", ")") + ";");
    }
}
