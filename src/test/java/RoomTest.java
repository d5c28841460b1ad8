import java.lang.management.ManagementFactory;

/** Wild calls never throw and make nothing; an object that is told the same answers the same. */
public final class RoomTest {
    private static final int CALLS = 512;
    private static final long MOST_BYTES_MADE = 4096;
    private static final int[] WILD = {0, 1, 2, 3, 4, 5, 7, 8, 9, 20, 40, 80, 120, 800, -1, -2, -1000,
        Integer.MAX_VALUE, Integer.MIN_VALUE, 1 << 16, 1 << 24};
    private static final String[] TEXTS = {
        "a(Z,x)=x;a(S(x),y)=S(a(x,y));b(x)=a(x,x);c(x)=c(S(x));d(Z,x)=Z;d(S(y),x)=C(x,d(y,x));",
        "e(x)=C(x,x,x,x);f(Z,m,n,o,p,q,r,s)=e(e(e(m)));f(S(x),m,n,o,p,q,r,s)=f(x,n,m,e(o),p,q,r,s);",
        "a(a(x,y),b(z))", "d(S(S(S(S(S(Z))))),f(x,y,z,t,u,v,w,m))", "e(e(e(e(S(S(S(S(S(x)))))))))", "c(Z)",
        "x=S(S(Z));y=C(A,B);z=Z;t=C(A,C(A,C(A,C(A,C(A,N)))))", "a(", "!", "C(x,y,!)", "f(x,e(y),z,t,u,v,w,m)",
    };

    private static long seed = 99;
    private static DrivenRuns x;

    private static int pick(int n) {
        seed = seed * 6364136223846793005L + 1442695040888963407L;
        return (int) ((seed >>> 33) % n);
    }

    private static int wild() {
        return pick(4) == 0 ? (int) (seed >>> 20) : WILD[pick(WILD.length)];
    }

    private static int near(int n) {
        return pick(8) == 0 ? wild() : pick(n + 2) - 1;
    }

    public static void main(String[] args) {
        for (int i = 0; i < 400; i++) {
            long start = seed;
            long answers = calls(i % 4);
            seed = start;
            Talk.due("the same calls again", calls(i % 4), answers);
        }
        nothingMade();
        Talk.finish("RoomTest");
    }

    private static void nothingMade() {
        com.sun.management.ThreadMXBean threads =
                (com.sun.management.ThreadMXBean) ManagementFactory.getThreadMXBean();
        long most = 0;
        for (int i = 0; i < 200; i++) {
            x = new DrivenRuns();
            long before = threads.getThreadAllocatedBytes(Thread.currentThread().getId());
            callOn(i % 4);
            long made = threads.getThreadAllocatedBytes(Thread.currentThread().getId()) - before;
            most = i > 0 ? Math.max(most, made) : most;
        }
        Talk.due("no objects behind the constructor, bytes " + most, most <= MOST_BYTES_MADE ? 0 : most, 0);
    }

    private static long calls(int style) {
        x = new DrivenRuns();
        return callOn(style);
    }

    private static long callOn(int style) {
        long answers = 17;
        int left = CALLS;
        while (left > 0) {
            if (style > 0 && pick(20) == 0 && left > 50) {
                left -= tell(TEXTS[pick(TEXTS.length)]);
            }
            answers = answers * 31 + call();
            left--;
        }
        return answers;
    }

    private static int tell(String text) {
        x.end(0);
        int calls = 3;
        for (int k = 0; k < text.length(); k += 20) {
            int a = word(text, k);
            int b = word(text, k + 4);
            int c = word(text, k + 8);
            int d = word(text, k + 12);
            x.feed(a, b, c, d, word(text, k + 16));
            calls++;
        }
        x.end(text.length());
        if (text.startsWith("x=")) {
            x.bind();
        } else if (text.endsWith(";")) {
            x.program();
        } else if (pick(2) == 0) {
            x.goal();
        } else {
            x.expression(pick(4));
        }
        return calls;
    }

    private static int word(String text, int k) {
        int w = 0;
        for (int b = 0; b < 4; b++) {
            w = w << 8 | (k + b < text.length() ? text.charAt(k + b) : 0);
        }
        return w;
    }

    private static int call() {
        switch (pick(30)) {
            case 0: return x.feed(wild(), wild(), wild(), wild(), wild());
            case 1: return x.end(wild());
            case 2: return pick(10) > 0 ? 0 : x.program();
            case 3: return pick(10) > 0 ? 0 : x.goal();
            case 4: return pick(10) > 0 ? 0 : x.bind();
            case 5: return pick(10) > 0 ? 0 : x.expression(near(4));
            case 6: return x.fault();
            case 7: return x.is(near(8));
            case 8: return x.clause(near(6), near(5));
            case 9: return x.run(near(2), near(4));
            case 10: return x.result(near(2));
            case 11: return x.runOf(near(4), near(4));
            case 12: return x.relation(near(4), near(4), near(4));
            case 13: return x.common(near(4), near(4));
            case 14: return x.commonOf(near(4), near(4), near(2));
            case 15: return x.step(near(4), near(4));
            case 16: return x.write(near(4));
            case 17: return x.of(near(4), near(5));
            case 18: return x.drive();
            case 19: return x.tree(near(11));
            case 20: return x.node(near(20), near(9));
            case 21: return x.writeNode(near(20));
            case 22: return x.ranked(near(20), near(3));
            case 23: return x.text(near(4));
            case 24: return x.octet(near(40));
            case 25: return pick(3) > 0 ? 0 : x.take();
            case 26: return x.saved();
            case 27: return x.deepest();
            case 28: return x.node(wild(), wild()) + x.clause(wild(), wild());
            default: return x.ranked(wild(), wild()) + x.octet(wild());
        }
    }
}
