/** An object whose calls are counted: nothing is promised behind the 512th one. */
final class Counted {
    static final int MOST_CALLS = 512;

    private final DrivenRuns x = new DrivenRuns();
    private int calls = 0;

    /** The object, for one call more. */
    private DrivenRuns call() {
        calls++;
        if (calls == MOST_CALLS + 1) {
            Talk.due("calls of one object", calls, MOST_CALLS);
        }
        return x;
    }

    int feed(int a, int b, int c, int d, int e) {
        return call().feed(a, b, c, d, e);
    }

    int end(int n) {
        return call().end(n);
    }

    int program() {
        return call().program();
    }

    int goal() {
        return call().goal();
    }

    int bind() {
        return call().bind();
    }

    int expression(int i) {
        return call().expression(i);
    }

    int fault() {
        return call().fault();
    }

    int is(int what) {
        return call().is(what);
    }

    int clause(int k, int what) {
        return call().clause(k, what);
    }

    int run(int which, int what) {
        return call().run(which, what);
    }

    int result(int which) {
        return call().result(which);
    }

    int runOf(int i, int what) {
        return call().runOf(i, what);
    }

    int relation(int i, int j, int what) {
        return call().relation(i, j, what);
    }

    int common(int i, int j) {
        return call().common(i, j);
    }

    int commonOf(int i, int j, int what) {
        return call().commonOf(i, j, what);
    }

    int step(int i, int k) {
        return call().step(i, k);
    }

    int write(int i) {
        return call().write(i);
    }

    int of(int i, int what) {
        return call().of(i, what);
    }

    int drive() {
        return call().drive();
    }

    int tree(int what) {
        return call().tree(what);
    }

    int node(int k, int what) {
        return call().node(k, what);
    }

    int writeNode(int k) {
        return call().writeNode(k);
    }

    int ranked(int place, int what) {
        return call().ranked(place, what);
    }

    int text(int what) {
        return call().text(what);
    }

    int octet(int k) {
        return call().octet(k);
    }

    int take() {
        return call().take();
    }

    int saved() {
        return call().saved();
    }

    int deepest() {
        return call().deepest();
    }
}
