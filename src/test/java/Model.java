import java.util.ArrayList;
import java.util.HashMap;
import java.util.LinkedHashMap;
import java.util.LinkedHashSet;
import java.util.List;
import java.util.Map;

/** The document once more, told by trees and texts, to compare the program's answers with. */
final class Model {
    static final int NONE = -1;

    /** An expression; a name is a text such as x12, A, a0, !. */
    static final class T {
        final String name;
        final List<T> args;

        T(String name, List<T> args) {
            this.name = name;
            this.args = args;
        }

        static T leaf(String name) {
            return new T(name, List.of());
        }

        boolean var() {
            return name.charAt(0) >= 'm' && name.charAt(0) <= 'z' || name.charAt(0) == '#';
        }

        boolean con() {
            return name.charAt(0) >= 'A' && name.charAt(0) <= 'Z';
        }

        boolean call() {
            return name.charAt(0) >= 'a' && name.charAt(0) <= 'l';
        }

        boolean stuck() {
            return name.equals("!");
        }

        /** The name with how many arguments: what makes functions, CONS like. */
        String key() {
            return name + "/" + args.size();
        }

        int size() {
            int n = 1;
            for (T t : args) {
                n += t.size();
            }
            return n;
        }

        int depth() {
            int most = 0;
            for (T t : args) {
                most = Math.max(most, t.depth());
            }
            return call() || !args.isEmpty() ? 1 + most : 0;
        }

        int calls() {
            int n = call() ? 1 : 0;
            for (T t : args) {
                n += t.calls();
            }
            return n;
        }

        boolean done() {
            if (!var() && !con()) {
                return false;
            }
            for (T t : args) {
                if (!t.done()) {
                    return false;
                }
            }
            return true;
        }

        void vars(LinkedHashSet<String> into) {
            if (var()) {
                into.add(name);
            }
            for (T t : args) {
                t.vars(into);
            }
        }

        List<String> vars() {
            LinkedHashSet<String> found = new LinkedHashSet<>();
            vars(found);
            return new ArrayList<>(found);
        }

        T put(Map<String, T> map) {
            if (var()) {
                return map.getOrDefault(name, this);
            }
            List<T> put = new ArrayList<>();
            for (T t : args) {
                put.add(t.put(map));
            }
            return new T(name, put);
        }

        T ordered() {
            Map<String, T> map = new HashMap<>();
            for (String v : vars()) {
                map.put(v, leaf("m" + map.size()));
            }
            return put(map);
        }

        String text() {
            if (!call() && args.isEmpty()) {
                return name;
            }
            StringBuilder out = new StringBuilder(name).append('(');
            for (int i = 0; i < args.size(); i++) {
                out.append(i == 0 ? "" : ",").append(args.get(i).text());
            }
            return out.append(')').toString();
        }
    }

    static final class C {
        String function;
        String con;
        int conArity;
        List<String> vars = new ArrayList<>();
        int arity;
        T right;

        String key() {
            return function + "/" + arity;
        }

        String conKey() {
            return con + "/" + conArity;
        }

        String text() {
            StringBuilder out = new StringBuilder(function).append('(');
            int i = 0;
            if (con != null) {
                out.append(con);
                if (conArity > 0) {
                    out.append('(').append(String.join(",", vars.subList(0, conArity))).append(')');
                }
                i = conArity;
                out.append(i < vars.size() ? "," : "");
            }
            out.append(String.join(",", vars.subList(i, vars.size())));
            return out.append(")=").append(right.text()).append(';').toString();
        }
    }

    static final class Fault extends RuntimeException {
        final int at;

        Fault(int at) {
            this.at = at;
        }
    }

    static final class Halt extends RuntimeException {
        final int code;

        Halt(int code) {
            this.code = code;
        }
    }

    // ---- reading

    private String text;
    private int at;
    private int read;

    private char sign() {
        return at < text.length() ? text.charAt(at) : 0xffff;
    }

    private void want(char c) {
        if (sign() != c) {
            throw new Fault(at);
        }
        at++;
    }

    private String name(char low, char high) {
        if (sign() < low || sign() > high) {
            throw new Fault(at);
        }
        int start = at++;
        if (sign() == '0') {
            at++;
        } else if (sign() >= '1' && sign() <= '9') {
            at++;
            if (sign() >= '0' && sign() <= '9') {
                at++;
            }
        }
        return text.substring(start, at);
    }

    private T thing(int depth, List<String> left, boolean cons) {
        if (depth == 20 || read == 40) {
            throw new Fault(at);
        }
        read++;
        char c = sign();
        int start = at;
        if (!cons && c == '!') {
            at++;
            return T.leaf("!");
        }
        if (!cons && c >= 'm' && c <= 'z') {
            String v = name('m', 'z');
            if (left != null && !left.contains(v)) {
                throw new Fault(start);
            }
            return T.leaf(v);
        }
        boolean call = !cons && c >= 'a' && c <= 'l';
        if (!call && !(c >= 'A' && c <= 'Z')) {
            throw new Fault(at);
        }
        String name;
        if (call) {
            name = name('a', 'l');
            want('(');
            if (sign() == ')') {
                at++;
                return T.leaf(name);
            }
        } else {
            name = String.valueOf(c);
            at++;
            if (sign() != '(') {
                return T.leaf(name);
            }
            at++;
        }
        List<T> args = new ArrayList<>();
        args.add(thing(depth + 1, left, cons));
        while (sign() == ',' && args.size() < (call ? 8 : 4)) {
            at++;
            args.add(thing(depth + 1, left, cons));
        }
        want(')');
        return new T(name, args);
    }

    private T whole() {
        read = 0;
        T t = thing(0, null, false);
        if (at < text.length()) {
            throw new Fault(at);
        }
        return t;
    }

    private String leftVar(List<String> had) {
        int start = at;
        String v = name('m', 'z');
        if (had.contains(v)) {
            throw new Fault(start);
        }
        return v;
    }

    private C clauseOf(List<C> ahead) {
        int start = at;
        if (ahead.size() == 40) {
            throw new Fault(at);
        }
        C c = new C();
        c.function = name('a', 'l');
        want('(');
        if (sign() != ')') {
            while (true) {
                if (c.arity == 0 && sign() >= 'A' && sign() <= 'Z') {
                    c.con = String.valueOf(sign());
                    at++;
                    if (sign() == '(') {
                        do {
                            at++;
                            c.vars.add(leftVar(c.vars));
                            c.conArity++;
                        } while (sign() == ',' && c.conArity < 4);
                        want(')');
                    }
                } else {
                    c.vars.add(leftVar(c.vars));
                }
                c.arity++;
                if (sign() != ',' || c.arity == 8) {
                    break;
                }
                at++;
            }
        }
        want(')');
        want('=');
        for (C o : ahead) {
            if (o.key().equals(c.key())
                    && (o.con == null || c.con == null || o.conKey().equals(c.conKey()))) {
                throw new Fault(start);
            }
        }
        read = 0;
        c.right = thing(0, c.vars, false);
        want(';');
        return c;
    }

    // ---- the state

    private final StringBuilder tape = new StringBuilder();
    private List<C> program = new ArrayList<>();
    private T goal = T.leaf("!");
    private final T[] expressions = {T.leaf("!"), T.leaf("!"), T.leaf("!"), T.leaf("!")};
    private Map<String, T> bound = new HashMap<>();
    private int fault = NONE;
    private String written = "";
    private int deepest;

    int feed(int a, int b, int c, int d, int e) {
        if (tape.length() + 20 > 800) {
            return NONE;
        }
        for (int w : new int[] {a, b, c, d, e}) {
            for (int s = 24; s >= 0; s -= 8) {
                tape.append((char) (w >> s & 255));
            }
        }
        return tape.length();
    }

    int end(int n) {
        if (n < 0 || n > tape.length()) {
            return NONE;
        }
        tape.setLength(n);
        return n;
    }

    private void takeTape() {
        text = tape.toString();
        tape.setLength(0);
        at = 0;
        fault = NONE;
    }

    int program() {
        takeTape();
        try {
            List<C> told = new ArrayList<>();
            while (at < text.length()) {
                told.add(clauseOf(told));
            }
            program = told;
            nodes = null;
            return told.size();
        } catch (Fault f) {
            fault = f.at;
            return NONE;
        }
    }

    int goal() {
        takeTape();
        try {
            goal = whole();
            nodes = null;
            return goal.size();
        } catch (Fault f) {
            fault = f.at;
            return NONE;
        }
    }

    int bind() {
        takeTape();
        try {
            Map<String, T> told = new HashMap<>();
            while (!text.isEmpty()) {
                String v = leftVar(new ArrayList<>(told.keySet()));
                want('=');
                read = 0;
                told.put(v, thing(0, null, true));
                if (at == text.length()) {
                    break;
                }
                want(';');
            }
            bound = told;
            return told.size();
        } catch (Fault f) {
            fault = f.at;
            return NONE;
        }
    }

    int expression(int i) {
        takeTape();
        if (i < 0 || i > 3) {
            return NONE;
        }
        try {
            expressions[i] = whole();
            return expressions[i].size();
        } catch (Fault f) {
            fault = f.at;
            return NONE;
        }
    }

    int fault() {
        return fault;
    }

    int is(int what) {
        LinkedHashSet<String> keys = new LinkedHashSet<>();
        int once = 0;
        int sizes = 0;
        for (C c : program) {
            keys.add(c.key());
            once += c.con == null ? 1 : 0;
            sizes += c.right.size();
        }
        int[] all = {program.size(), keys.size(), once, goal.size(), goal.vars().size(),
            bound.size(), tape.length(), sizes};
        return what < 0 || what > 7 ? NONE : all[what];
    }

    int clause(int k, int what) {
        if (k < 0 || k >= program.size() || what < 0 || what > 4) {
            return NONE;
        }
        C c = program.get(k);
        return new int[] {c.right.size(), c.arity, c.con == null ? 0 : c.con.charAt(0) - 'A' + 1,
            c.conArity, c.right.calls()}[what];
    }

    // ---- steps

    /** What a step makes of a term: null with why set if there is none. */
    private int why;
    private String blocked;
    private int deep;

    private static final int STUCK = 1;
    private static final int BLOCKED = 2;

    private T stepCall(List<C> by, T t, int level) {
        List<C> own = new ArrayList<>();
        for (C c : by) {
            if (c.key().equals(t.key())) {
                own.add(c);
            }
        }
        deep = level;
        why = STUCK;
        if (own.isEmpty()) {
            return null;
        }
        if (own.get(0).con == null) {
            return useClause(own.get(0), t.args);
        }
        T first = t.args.get(0);
        if (first.var()) {
            why = BLOCKED;
            blocked = first.name;
            return null;
        }
        if (first.stuck()) {
            return null;
        }
        List<T> rest = t.args.subList(1, t.args.size());
        if (first.call()) {
            T inner = stepCall(by, first, level + 1);
            if (inner == null) {
                return null;
            }
            List<T> args = new ArrayList<>();
            args.add(inner);
            args.addAll(rest);
            return new T(t.name, args);
        }
        for (C c : own) {
            if (c.conKey().equals(first.key())) {
                List<T> args = new ArrayList<>(first.args);
                args.addAll(rest);
                return useClause(c, args);
            }
        }
        return null;
    }

    private T useClause(C c, List<T> values) {
        Map<String, T> map = new HashMap<>();
        for (int i = 0; i < values.size(); i++) {
            map.put(c.vars.get(i), values.get(i));
        }
        return c.right.put(map);
    }

    /** Of something that is not done. */
    private T stepAny(List<C> by, T t, int level) {
        if (t.call()) {
            return stepCall(by, t, level);
        }
        if (t.con()) {
            for (int i = 0; i < t.args.size(); i++) {
                if (!t.args.get(i).done()) {
                    T inner = stepAny(by, t.args.get(i), level + 1);
                    if (inner == null) {
                        return null;
                    }
                    List<T> args = new ArrayList<>(t.args);
                    args.set(i, inner);
                    return new T(t.name, args);
                }
            }
        }
        return null;
    }

    private T last;
    private int ended;
    private int steps;
    private int greatest;

    private void perform(List<C> by, T start) {
        last = start.put(bound);
        steps = 0;
        deepest = 0;
        greatest = last.size();
        while (true) {
            if (last.size() > 120) {
                ended = 3;
                return;
            }
            if (last.done()) {
                ended = 0;
                return;
            }
            T next = stepAny(by, last, 1);
            if (next == null) {
                ended = 1;
                return;
            }
            if (steps == 200) {
                ended = 2;
                return;
            }
            deepest = Math.max(deepest, deep);
            last = next;
            steps++;
            greatest = Math.max(greatest, last.size());
        }
    }

    private int answer(int what) {
        return new int[] {ended, steps, last.size(), greatest}[what];
    }

    int run(int which, int what) {
        if (which < 0 || which > 1 || what < 0 || what > 3 || which == 1 && nodes == null) {
            return NONE;
        }
        perform(which == 0 ? program : residue, which == 0 ? goal : newGoal);
        return answer(what);
    }

    int result(int which) {
        if (which < 0 || which > 1 || which == 1 && nodes == null) {
            return NONE;
        }
        perform(which == 0 ? program : residue, which == 0 ? goal : newGoal);
        return put(last.text());
    }

    private int put(String s) {
        written = s;
        return s.length();
    }

    int runOf(int i, int what) {
        if (i < 0 || i > 3 || what < 0 || what > 3) {
            return NONE;
        }
        perform(program, expressions[i]);
        return answer(what);
    }

    // ---- comparing

    private static boolean match(T general, T t, Map<String, T> map) {
        if (general.var()) {
            T had = map.putIfAbsent(general.name, t);
            return had == null || had.text().equals(t.text());
        }
        if (!general.key().equals(t.key())) {
            return false;
        }
        for (int i = 0; i < t.args.size(); i++) {
            if (!match(general.args.get(i), t.args.get(i), map)) {
                return false;
            }
        }
        return true;
    }

    private static boolean instance(T t, T general) {
        return match(general, t, new HashMap<>());
    }

    private static boolean renaming(T a, T b) {
        return a.ordered().text().equals(b.ordered().text());
    }

    private static boolean coupled(T a, T b) {
        if (a.var() || b.var()) {
            return a.var() && b.var();
        }
        if (!a.key().equals(b.key())) {
            return false;
        }
        for (int i = 0; i < a.args.size(); i++) {
            if (!embedded(a.args.get(i), b.args.get(i))) {
                return false;
            }
        }
        return true;
    }

    private static boolean embedded(T a, T b) {
        if (coupled(a, b)) {
            return true;
        }
        for (T t : b.args) {
            if (embedded(a, t)) {
                return true;
            }
        }
        return false;
    }

    private static T common(T a, T b, Map<String, String> names, Map<String, T> binds, String sign) {
        if (!a.var() && a.key().equals(b.key())) {
            List<T> args = new ArrayList<>();
            for (int i = 0; i < a.args.size(); i++) {
                args.add(common(a.args.get(i), b.args.get(i), names, binds, sign));
            }
            return new T(a.name, args);
        }
        String pair = a.text() + " " + b.text();
        if (!names.containsKey(pair)) {
            names.put(pair, sign + names.size());
            binds.put(names.get(pair), a);
        }
        return T.leaf(names.get(pair));
    }

    int relation(int i, int j, int what) {
        if (i < 0 || i > 3 || j < 0 || j > 3 || what < 0 || what > 3) {
            return NONE;
        }
        T a = expressions[i];
        T b = expressions[j];
        boolean is = what == 0 ? renaming(a, b) : what == 1 ? instance(a, b)
                : what == 2 ? embedded(a, b) : coupled(a, b);
        return is ? 1 : 0;
    }

    int common(int i, int j) {
        if (i < 0 || i > 3 || j < 0 || j > 3) {
            return NONE;
        }
        return put(common(expressions[i], expressions[j], new HashMap<>(), new HashMap<>(), "m").text());
    }

    int commonOf(int i, int j, int what) {
        if (i < 0 || i > 3 || j < 0 || j > 3 || what < 0 || what > 1) {
            return NONE;
        }
        T t = common(expressions[i], expressions[j], new HashMap<>(), new HashMap<>(), "m");
        return what == 0 ? t.vars().size() : t.size();
    }

    int step(int i, int k) {
        if (i < 0 || i > 3 || k < 0 || k > 3) {
            return NONE;
        }
        T t = expressions[i].put(bound);
        int answer = 0;
        if (!t.done()) {
            t = stepAny(program, t, 1);
            answer = 1;
        }
        if (t == null) {
            return -2;
        }
        if (t.size() > 40) {
            return NONE;
        }
        expressions[k] = t;
        return answer;
    }

    int write(int i) {
        return i < 0 || i > 3 ? NONE : put(expressions[i].text());
    }

    int of(int i, int what) {
        if (i < 0 || i > 3 || what < 0 || what > 4) {
            return NONE;
        }
        T t = expressions[i];
        int kind = t.var() ? 0 : t.con() ? 1 : t.call() ? 2 : 3;
        return new int[] {t.size(), t.vars().size(), t.depth(), kind, t.calls()}[what];
    }

    // ---- driving

    static final class N {
        T t;
        N up;
        List<N> below = new ArrayList<>();
        int kind = -1;
        N fold;
        String blocked;
        C by;
        List<String> fresh;
        int function = NONE;
        T comes;

        int deep() {
            return up == null ? 0 : 1 + up.deep();
        }

        void list(List<N> into) {
            into.add(this);
            for (N n : below) {
                n.list(into);
            }
        }
    }

    private List<N> nodes;
    private List<C> residue;
    private T newGoal;
    private int made;
    private int looked;
    private int lets;
    private int freshVars;
    private int functions;

    private N make(N up, T t) {
        if (t.size() > 40) {
            throw new Halt(-3);
        }
        if (made == 120) {
            throw new Halt(-2);
        }
        made++;
        N n = new N();
        n.t = t;
        n.up = up;
        if (up != null) {
            up.below.add(n);
        }
        return n;
    }

    private static N unlooked(N n) {
        if (n.kind < 0) {
            return n;
        }
        for (N b : n.below) {
            N found = unlooked(b);
            if (found != null) {
                return found;
            }
        }
        return null;
    }

    private void look(N n) {
        looked++;
        if (n.t.var()) {
            n.kind = 0;
            return;
        }
        if (n.t.con()) {
            n.kind = 1;
            for (T t : n.t.args) {
                make(n, t);
            }
            return;
        }
        T next = n.t.call() ? stepCall(program, n.t, 1) : null;
        if (n.t.stuck() || next == null && why == STUCK) {
            n.kind = 6;
            return;
        }
        int kind = next == null ? 3 : 2;
        n.blocked = next == null ? blocked : null;
        for (N a = n.up; a != null; a = a.up) {
            if (a.kind == kind && renaming(n.t, a.t)) {
                n.kind = 4;
                n.fold = a;
                return;
            }
        }
        for (N a = n.up; a != null; a = a.up) {
            if (a.kind == kind && coupled(a.t, n.t)) {
                let(n, a);
                return;
            }
        }
        n.kind = kind;
        if (next != null) {
            make(n, next);
            return;
        }
        split(n);
    }

    private void let(N n, N a) {
        Map<String, T> map = new LinkedHashMap<>();
        if (match(a.t, n.t, map)) {
            n.kind = 5;
            make(n, a.t);
            for (String v : a.t.vars()) {
                make(n, map.get(v));
            }
            return;
        }
        a.below.clear();
        a.kind = 5;
        lets++;
        Map<String, T> binds = new LinkedHashMap<>();
        T form = common(a.t, n.t, new HashMap<>(), binds, "#" + freshVars++ + ".");
        make(a, form);
        for (String v : form.vars()) {
            make(a, binds.get(v));
        }
    }

    private void split(N n) {
        T inner = n.t;
        while (!inner.args.get(0).var()) {
            inner = inner.args.get(0);
        }
        for (C c : program) {
            if (c.key().equals(inner.key())) {
                List<String> fresh = new ArrayList<>();
                List<T> args = new ArrayList<>();
                for (int i = 0; i < c.conArity; i++) {
                    fresh.add("#" + freshVars++);
                    args.add(T.leaf(fresh.get(i)));
                }
                Map<String, T> map = new HashMap<>();
                map.put(n.blocked, new T(c.con, args));
                N b = make(n, stepCall(program, n.t.put(map), 1));
                b.by = c;
                b.fresh = fresh;
            }
        }
    }

    int drive() {
        nodes = null;
        made = 0;
        looked = 0;
        lets = 0;
        freshVars = 0;
        try {
            N root = make(null, goal);
            for (N n = root; n != null; n = unlooked(root)) {
                if (looked == 80) {
                    throw new Halt(-2);
                }
                look(n);
            }
            List<N> all = new ArrayList<>();
            root.list(all);
            residue(all);
            nodes = all;
            return all.size();
        } catch (Halt h) {
            return h.code;
        }
    }

    private static List<String> arguments(N n) {
        List<String> vars = n.t.vars();
        if (n.blocked != null) {
            vars.remove(n.blocked);
            vars.add(0, n.blocked);
        }
        return vars;
    }

    private void residue(List<N> all) {
        functions = 0;
        int clauses = 0;
        boolean many = false;
        for (N n : all) {
            boolean folded = false;
            for (N o : all) {
                folded |= o.fold == n;
            }
            if (n.kind == 3 || n.kind == 2 && folded) {
                n.function = functions++;
                clauses += n.below.size();
                many |= arguments(n).size() > 8;
            }
        }
        if (many) {
            throw new Halt(-4);
        }
        if (clauses > 40) {
            throw new Halt(-5);
        }
        come(all.get(0));
        residue = new ArrayList<>();
        for (N n : all) {
            if (n.function >= 0) {
                for (N b : n.below) {
                    residue.add(clauseFor(n, b));
                }
            }
        }
        newGoal = all.get(0).comes;
    }

    private static C clauseFor(N n, N b) {
        C c = new C();
        c.function = "a" + n.function;
        List<String> left = arguments(n);
        c.arity = left.size();
        if (n.kind == 3) {
            c.con = b.by.con;
            c.conArity = b.by.conArity;
            left.remove(0);
            left.addAll(0, b.fresh);
        }
        Map<String, T> map = new HashMap<>();
        for (String v : left) {
            c.vars.add("m" + map.size());
            map.put(v, T.leaf("m" + map.size()));
        }
        c.right = b.comes.put(map);
        return c;
    }

    private static T callOf(int function, List<String> vars) {
        List<T> args = new ArrayList<>();
        for (String v : vars) {
            args.add(T.leaf(v));
        }
        return new T("a" + function, args);
    }

    private void come(N n) {
        for (N b : n.below) {
            come(b);
        }
        switch (n.kind) {
            case 0:
                n.comes = n.t;
                break;
            case 6:
                n.comes = T.leaf("!");
                break;
            case 1:
                List<T> args = new ArrayList<>();
                for (N b : n.below) {
                    args.add(b.comes);
                }
                n.comes = new T(n.t.name, args);
                break;
            case 5:
                Map<String, T> map = new HashMap<>();
                List<String> vars = n.below.get(0).t.vars();
                for (int i = 0; i < vars.size(); i++) {
                    map.put(vars.get(i), n.below.get(i + 1).comes);
                }
                n.comes = n.below.get(0).comes.put(map);
                break;
            case 4:
                Map<String, T> own = new HashMap<>();
                match(n.fold.t, n.t, own);
                n.comes = callOf(n.fold.function, arguments(n.fold)).put(own);
                break;
            default:
                n.comes = n.function < 0 ? n.below.get(0).comes : callOf(n.function, arguments(n));
                break;
        }
        if (n.comes.size() > 100) {
            throw new Halt(-6);
        }
    }

    private int count(int kind) {
        int k = 0;
        for (N n : nodes) {
            k += n.kind == kind ? 1 : 0;
        }
        return k;
    }

    int tree(int what) {
        if (nodes == null || what < 0 || what > 10) {
            return NONE;
        }
        int size = 0;
        int deep = 0;
        for (N n : nodes) {
            size = Math.max(size, n.t.size());
            deep = Math.max(deep, n.deep());
        }
        return new int[] {nodes.size(), looked, count(4), count(3), count(5), lets, size, deep,
            functions, residue.size(), newGoal.size()}[what];
    }

    int node(int k, int what) {
        if (nodes == null || k < 0 || k >= nodes.size() || what < 0 || what > 8) {
            return -2;
        }
        N n = nodes.get(k);
        return new int[] {n.kind, nodes.indexOf(n.up), n.up == null ? NONE : n.up.below.indexOf(n),
            n.deep(), n.t.size(), n.t.vars().size(), n.below.size(), nodes.indexOf(n.fold),
            n.function}[what];
    }

    int writeNode(int k) {
        return nodes == null || k < 0 || k >= nodes.size() ? NONE : put(nodes.get(k).t.ordered().text());
    }

    int ranked(int place, int what) {
        if (nodes == null || place < 0 || place >= nodes.size() || what < 0 || what > 2) {
            return NONE;
        }
        List<N> sorted = new ArrayList<>(nodes);
        sorted.sort((a, b) -> what == 0 ? b.t.size() - a.t.size()
                : what == 1 ? b.deep() - a.deep() : b.t.vars().size() - a.t.vars().size());
        return nodes.indexOf(sorted.get(place));
    }

    private static String textOf(List<C> clauses) {
        StringBuilder out = new StringBuilder();
        for (C c : clauses) {
            out.append(c.text());
        }
        return out.toString();
    }

    int text(int what) {
        if (what < 0 || what > 3 || what < 2 && nodes == null) {
            return NONE;
        }
        return put(what == 0 ? textOf(residue) : what == 1 ? newGoal.text()
                : what == 2 ? textOf(program) : goal.text());
    }

    int octet(int k) {
        return k < 0 || k >= written.length() ? NONE : written.charAt(k);
    }

    String written() {
        return written;
    }

    int take() {
        if (nodes == null) {
            return NONE;
        }
        program = residue;
        goal = newGoal;
        nodes = null;
        return program.size();
    }

    int saved() {
        if (nodes == null) {
            return -1001;
        }
        perform(program, goal);
        int firstEnd = ended;
        int firstSteps = steps;
        perform(residue, newGoal);
        return firstEnd == ended && ended < 2 ? firstSteps - steps : -1000;
    }

    int deepest() {
        return deepest;
    }
}
