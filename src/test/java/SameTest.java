/** What comes of driving does the same in no more steps; driven again, it still does. */
public final class SameTest {
    private static final int ROUNDS = 3000;
    private static final int LEAST_DONE = 1000;
    private static final String[] PROGRAMS = {
        "a(N,x)=x;a(C(x,y),z)=C(x,a(y,z));b(N)=N;b(C(x,y))=a(b(y),C(x,N));c(x)=a(x,x);",
        "a(Z,x)=x;a(S(x),y)=S(a(x,y));b(Z,x)=Z;b(S(x),y)=a(y,b(x,y));c(x)=b(x,x);",
        "a(Z,x)=x;a(S(x),y)=a(x,S(y));a(N,x)=x;a(C(x,y),z)=a(y,C(x,z));b(x)=a(x,x);c(x)=S(a(x,N));",
        "a(N,y)=N;a(C(x,y),z)=e(z,x,y);e(N,x,y)=N;e(C(z,t),x,y)=C(P(x,z),a(y,t));b(x)=a(x,x);c(Z)=Z;c(S(x))=c(x);",
        "b(N)=T;b(C(x,y))=c(y);c(N)=F;c(C(x,y))=b(y);a(x,y)=d(b(x),y,x);d(T,x,y)=x;d(F,x,y)=C(y,x);",
    };
    private static final String[] GOALS = {"a(a(x,y),z)", "b(a(x,y))", "c(x)", "C(a(x,y),a(y,x))", "a(b(x),y)", "a(x,x)",
        "b(b(x))", "c(a(x,C(A,y)))", "a(S(S(x)),y)", "b(C(A,x))", "a(C(x,N),C(y,N))", "b(x,a(y,z))", "c(c(x))"};

    private static long seed = 7;

    private static int pick(int n) {
        seed = seed * 6364136223846793005L + 1442695040888963407L;
        return (int) ((seed >>> 33) % n);
    }

    private static String value(boolean number) {
        int many = pick(4);
        return number ? Talk.nested("S(", many, "Z", ")") : Talk.nested("C(B,", many, "N", ")");
    }

    public static void main(String[] args) {
        Talk.sentence("out of the tree a program that does the same in no more steps, .. run, driven again");
        int done = 0;
        for (int i = 0; i < ROUNDS; i++) {
            done += same(PROGRAMS[pick(PROGRAMS.length)], GOALS[pick(GOALS.length)]);
        }
        Talk.due("rounds that were DONE, at least", Math.min(done, LEAST_DONE), LEAST_DONE);
        Talk.finish("SameTest");
    }

    /** 1, if the goal came to an end that could be compared. */
    private static int same(String program, String goal) {
        Talk t = Talk.told(program, goal);
        boolean numbers = program.startsWith("a(Z");
        t.bind("x=" + value(numbers) + ";y=" + value(numbers) + ";z=" + value(numbers));
        if (t.x.run(0, 0) > 0 || t.x.drive() < 0) {
            return 0;
        }
        String end = t.result(0);
        int steps = t.x.run(0, 1);
        String call = program + " " + goal;
        for (int again = 0; again < 2; again++) {
            Talk.due("the end of " + call, t.result(1), end);
            Talk.due("more STEPS of " + call, Math.max(0, t.x.run(1, 1) - steps), 0);
            Talk.due("saved() of " + call, t.x.saved(), steps - t.x.run(1, 1));
            steps = t.x.run(1, 1);
            t.x.take();
            if (t.x.drive() < 0) {
                break;
            }
        }
        return 1;
    }
}
