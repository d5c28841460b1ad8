/**
 * A supercompiler for programs of functions that are told as texts: it runs them, drives a goal
 * into a tree, and makes out of the tree a program that does the same in no more steps.
 *
 * <p>An expression is held as a row of cells in the order in which its things are written, so that
 * each work on expressions is a plain loop over a row. All rows are made in the constructors.
 */
public final class DrivenRuns {
    public static final int NONE = -1;

    private static final int EXPRESSIONS = 4;
    private static final int FEED_BYTES = 20;
    private static final int STEP_STUCK = -2;
    private static final int NO_SUCH_NODE = -2;
    private static final int NOT_COMPARED = -1000;
    private static final int NOT_DRIVEN = -1001;

    private final Reader reader;
    private final Writer writer;
    private final Matcher matcher;
    private final Runner runner;
    private final Tree tree;
    private final Residue residue;
    private final Expr[] expressions;
    private final Expr goal;
    private final Expr newGoal;
    private final Expr scratch;
    private Program program;
    private Program newProgram;
    private Program spareProgram;
    private Bound bound;
    private Bound spareBound;
    private boolean driven;
    private int fault;

    public DrivenRuns() {
        reader = new Reader();
        writer = new Writer();
        matcher = new Matcher();
        runner = new Runner();
        tree = new Tree(runner, matcher);
        residue = new Residue();
        expressions = new Expr[EXPRESSIONS];
        for (int i = 0; i < EXPRESSIONS; i++) {
            expressions[i] = new Expr(Expr.MOST_TOLD);
            expressions[i].add(Expr.STUCK_CELL);
        }
        goal = new Expr(Expr.MOST_COMING);
        goal.add(Expr.STUCK_CELL);
        newGoal = new Expr(Expr.MOST_COMING);
        scratch = new Expr(Expr.MOST_COMING);
        program = new Program();
        newProgram = new Program();
        spareProgram = new Program();
        bound = new Bound();
        spareBound = new Bound();
        driven = false;
        fault = NONE;
    }

    public int feed(int a, int b, int c, int d, int e) {
        if (reader.length + FEED_BYTES > Reader.TAPE_ROOM) {
            return NONE;
        }
        reader.addWord(a);
        reader.addWord(b);
        reader.addWord(c);
        reader.addWord(d);
        reader.addWord(e);
        return reader.length;
    }

    public int end(int n) {
        return reader.cut(n) ? n : NONE;
    }

    public int program() {
        if (!emptyTape(reader.readProgram(spareProgram))) {
            return NONE;
        }
        Program told = spareProgram;
        spareProgram = program;
        program = told;
        driven = false;
        return program.count;
    }

    public int goal() {
        if (!emptyTape(reader.readWhole(scratch))) {
            return NONE;
        }
        goal.become(scratch);
        driven = false;
        return goal.size;
    }

    public int bind() {
        if (!emptyTape(reader.readBound(spareBound))) {
            return NONE;
        }
        Bound told = spareBound;
        spareBound = bound;
        bound = told;
        return bound.count;
    }

    public int expression(int i) {
        if (!isExpression(i)) {
            emptyTape(true);
            return NONE;
        }
        if (!emptyTape(reader.readWhole(scratch))) {
            return NONE;
        }
        expressions[i].become(scratch);
        return scratch.size;
    }

    public int fault() {
        return fault;
    }

    public int is(int what) {
        switch (what) {
            case 0:
                return program.count;
            case 1:
                return program.countFunctions();
            case 2:
                return program.countAtOnce();
            case 3:
                return goal.size;
            case 4:
                return goal.countVars();
            case 5:
                return bound.count;
            case 6:
                return reader.length;
            case 7:
                return program.countRight();
            default:
                return NONE;
        }
    }

    public int clause(int k, int what) {
        Clause clause = program.clauseAt(k);
        if (clause == null) {
            return NONE;
        }
        switch (what) {
            case 0:
                return clause.right.size;
            case 1:
                return Expr.arity(clause.function);
            case 2:
                return clause.isCase() ? Expr.symbol(clause.con) + 1 : 0;
            case 3:
                return clause.isCase() ? Expr.arity(clause.con) : 0;
            case 4:
                return clause.right.countCalls();
            default:
                return NONE;
        }
    }

    public int run(int which, int what) {
        if (what < 0 || what > 3 || !runGoal(which)) {
            return NONE;
        }
        return runner.answer(what);
    }

    public int result(int which) {
        if (!runGoal(which)) {
            return NONE;
        }
        return writeExpr(runner.now);
    }

    public int runOf(int i, int what) {
        if (!isExpression(i) || what < 0 || what > 3) {
            return NONE;
        }
        runner.perform(program, expressions[i], bound);
        return runner.answer(what);
    }

    public int relation(int i, int j, int what) {
        if (!isExpression(i) || !isExpression(j)) {
            return NONE;
        }
        Expr one = expressions[i];
        Expr other = expressions[j];
        matcher.compare(one, other);
        switch (what) {
            case 0:
                return matcher.isRenaming(one, other) ? 1 : 0;
            case 1:
                return matcher.isInstance(one, other) ? 1 : 0;
            case 2:
                return matcher.isEmbedded ? 1 : 0;
            case 3:
                return matcher.isCoupled ? 1 : 0;
            default:
                return NONE;
        }
    }

    public int common(int i, int j) {
        if (!isExpression(i) || !isExpression(j)) {
            return NONE;
        }
        matcher.makeCommon(expressions[i], expressions[j], scratch, Expr.FIRST_M);
        return writeExpr(scratch);
    }

    public int commonOf(int i, int j, int what) {
        if (!isExpression(i) || !isExpression(j) || what < 0 || what > 1) {
            return NONE;
        }
        matcher.makeCommon(expressions[i], expressions[j], scratch, Expr.FIRST_M);
        return what == 0 ? matcher.count : scratch.size;
    }

    public int step(int i, int k) {
        if (!isExpression(i) || !isExpression(k)) {
            return NONE;
        }
        int ended = runner.performOne(program, expressions[i], bound);
        if (ended == Runner.STUCK) {
            return STEP_STUCK;
        }
        if (runner.now.size > Expr.MOST_TOLD) {
            return NONE;
        }
        expressions[k].become(runner.now);
        return ended == Runner.DONE ? 0 : 1;
    }

    public int write(int i) {
        return isExpression(i) ? writeExpr(expressions[i]) : NONE;
    }

    public int of(int i, int what) {
        if (!isExpression(i)) {
            return NONE;
        }
        Expr expr = expressions[i];
        switch (what) {
            case 0:
                return expr.size;
            case 1:
                return expr.countVars();
            case 2:
                return expr.countNested();
            case 3:
                return expr.kindAt(0);
            case 4:
                return expr.countCalls();
            default:
                return NONE;
        }
    }

    public int drive() {
        driven = false;
        int status = tree.grow(program, goal);
        if (status == Tree.WELL) {
            status = residue.make(tree, newProgram);
        }
        if (status != Tree.WELL) {
            return status;
        }
        newGoal.become(residue.goalOf(tree));
        driven = true;
        return tree.count;
    }

    public int tree(int what) {
        if (!driven) {
            return NONE;
        }
        switch (what) {
            case 0:
                return tree.count;
            case 1:
                return tree.looked;
            case 2:
                return tree.countKind(Node.FOLDED);
            case 3:
                return tree.countKind(Node.SPLIT);
            case 4:
                return tree.countKind(Node.LET);
            case 5:
                return tree.generalized;
            case 6:
                return tree.greatest(Node.BY_SIZE);
            case 7:
                return tree.greatest(Node.BY_DEEP);
            case 8:
                return residue.functions;
            case 9:
                return newProgram.count;
            case 10:
                return newGoal.size;
            default:
                return NONE;
        }
    }

    public int node(int k, int what) {
        Node node = driven ? tree.nodeAt(k) : null;
        if (node == null) {
            return NO_SUCH_NODE;
        }
        switch (what) {
            case 0:
                return node.kind;
            case 1:
                return node.up == null ? NONE : node.up.number;
            case 2:
                return node.which;
            case 3:
                return node.deep;
            case 4:
                return node.expr.size;
            case 5:
                return node.varCount;
            case 6:
                return node.below;
            case 7:
                return node.fold == null ? NONE : node.fold.number;
            case 8:
                return node.function;
            default:
                return NO_SUCH_NODE;
        }
    }

    public int writeNode(int k) {
        Node node = driven ? tree.nodeAt(k) : null;
        if (node == null) {
            return NONE;
        }
        scratch.clear();
        scratch.addRenamed(node.expr, node.vars, node.varCount);
        return writeExpr(scratch);
    }

    public int ranked(int place, int what) {
        if (!driven || what < 0 || what > 2) {
            return NONE;
        }
        return tree.numberAtRank(place, what);
    }

    public int text(int what) {
        if (what < 0 || what > 3 || what < 2 && !driven) {
            return NONE;
        }
        if (what == 1 || what == 3) {
            return writeExpr(what == 1 ? newGoal : goal);
        }
        writer.clear();
        writer.putProgram(what == 0 ? newProgram : program);
        return writer.count;
    }

    public int octet(int k) {
        return writer.byteAt(k);
    }

    public int take() {
        if (!driven) {
            return NONE;
        }
        Program old = program;
        program = newProgram;
        newProgram = old;
        goal.become(newGoal);
        driven = false;
        return program.count;
    }

    public int saved() {
        if (!driven) {
            return NOT_DRIVEN;
        }
        runner.perform(program, goal, bound);
        int ended = runner.ended;
        int steps = runner.steps;
        runner.perform(newProgram, newGoal, bound);
        boolean alike = ended == runner.ended;
        if (!alike || ended != Runner.DONE && ended != Runner.STUCK) {
            return NOT_COMPARED;
        }
        return steps - runner.steps;
    }

    public int deepest() {
        return runner.deepest;
    }

    private static boolean isExpression(int i) {
        return i >= 0 && i < EXPRESSIONS;
    }

    /** Ends a reading: the tape is empty behind it, however it went. */
    private boolean emptyTape(boolean well) {
        fault = well ? NONE : reader.faultAt;
        reader.cut(0);
        return well;
    }

    private boolean runGoal(int which) {
        if (which == 0) {
            runner.perform(program, goal, bound);
            return true;
        }
        if (which == 1 && driven) {
            runner.perform(newProgram, newGoal, bound);
            return true;
        }
        return false;
    }

    private int writeExpr(Expr expr) {
        writer.clear();
        writer.putExpr(expr);
        return writer.count;
    }

    /**
     * An expression: its things in the order in which they are written, a cell each. A cell holds
     * the kind, how many arguments follow, and which one of its kind it is; so like things have
     * like cells, and the cell of a VAR is just its number.
     */
    private static final class Expr {
        static final int VAR = 0;
        static final int CON = 1;
        static final int CALL = 2;
        static final int STUCK = 3;
        static final int STUCK_CELL = STUCK << 24;
        /** The greatest SIZE of what is told, and of a NODE's EXPRESSION. */
        static final int MOST_TOLD = 40;
        /** The greatest SIZE of what comes of a NODE. */
        static final int MOST_COMING = 100;
        /** Above what one STEP can make: each of 100 VARS on a right side stands for below 200. */
        static final int MOST_MADE = 20480;
        /** How many names begin with one letter: alone, with 0 .. 9, with 10 .. 99. */
        static final int NAMES_OF_LETTER = 101;
        /** The VAR m0; m1 and the next ones follow it. */
        static final int FIRST_M = 1;
        /** The function a0; a1 and the next ones follow it. */
        static final int FIRST_FUNCTION = 1;
        /** The first VAR that has no name. */
        static final int FIRST_NAMELESS = 14 * NAMES_OF_LETTER;

        final int[] cells;
        int size;

        Expr(int room) {
            cells = new int[Math.max(1, room)];
            size = 0;
        }

        static int cell(int kind, int arity, int symbol) {
            return kind << 24 | arity << 16 | symbol;
        }

        static int kind(int cell) {
            return cell >> 24 & 3;
        }

        static int arity(int cell) {
            return cell >> 16 & 15;
        }

        static int symbol(int cell) {
            return cell & 65535;
        }

        static int indexOf(int value, int[] row, int count) {
            for (int i = 0; i < count && i < row.length; i++) {
                if (row[i] == value) {
                    return i;
                }
            }
            return NONE;
        }

        int cellAt(int i) {
            return i >= 0 && i < size ? cells[i] : STUCK_CELL;
        }

        int kindAt(int i) {
            return kind(cellAt(i));
        }

        void clear() {
            size = 0;
        }

        void add(int cell) {
            if (size < cells.length) {
                cells[size] = cell;
                size++;
            }
        }

        void addPart(Expr from, int start, int stop) {
            int length = stop - start;
            if (start < 0 || length < 0 || stop > from.size || length > cells.length - size) {
                return;
            }
            System.arraycopy(from.cells, start, cells, size, length);
            size += length;
        }

        void addAll(Expr from) {
            addPart(from, 0, from.size);
        }

        /** Adds all of an expression, with m0, m1, .. in place of the VARS in a row. */
        void addRenamed(Expr from, int[] vars, int count) {
            for (int i = 0; i < from.size; i++) {
                int cell = from.cellAt(i);
                int index = kind(cell) == VAR ? indexOf(cell, vars, count) : NONE;
                add(index == NONE ? cell : FIRST_M + index);
            }
        }

        void become(Expr other) {
            size = Math.min(other.size, cells.length);
            System.arraycopy(other.cells, 0, cells, 0, size);
        }

        void setArity(int i, int arity) {
            if (i >= 0 && i < size) {
                cells[i] = cell(kind(cells[i]), arity, symbol(cells[i]));
            }
        }

        /** The index behind the part that begins at an index. */
        int behind(int start) {
            int wanted = 1;
            for (int i = start; i >= 0 && i < size; i++) {
                wanted += arity(cells[i]) - 1;
                if (wanted == 0) {
                    return i + 1;
                }
            }
            return size;
        }

        /** Whether the parts that begin at two indices are alike: then they end alike, too. */
        boolean samePart(int start, Expr other, int otherStart) {
            int wanted = 1;
            for (int i = 0; wanted > 0 && i < size; i++) {
                int cell = cellAt(start + i);
                if (cell != other.cellAt(otherStart + i)) {
                    return false;
                }
                wanted += arity(cell) - 1;
            }
            return true;
        }

        /** The first thing that is no VAR and no CON; NONE: it is DONE. */
        int firstUndone() {
            for (int i = 0; i < size; i++) {
                int kind = kind(cells[i]);
                if (kind == CALL || kind == STUCK) {
                    return i;
                }
            }
            return NONE;
        }

        /** How many parts lie in one another from the whole to the part at an index. */
        int deepAt(int index) {
            int deep = 1;
            int closed = 0;
            for (int i = index - 1; i >= 0; i--) {
                int arity = arity(cellAt(i));
                if (arity > closed) {
                    // not all of its arguments end ahead of the index: it lies around
                    deep++;
                    closed = 0;
                } else {
                    closed += 1 - arity;
                }
            }
            return deep;
        }

        /** How deep the ( lie in one another. */
        int countNested() {
            int most = 0;
            for (int i = 0; i < size; i++) {
                if (kind(cells[i]) == CALL || arity(cells[i]) > 0) {
                    most = Math.max(most, deepAt(i));
                }
            }
            return most;
        }

        int countCalls() {
            int calls = 0;
            for (int i = 0; i < size; i++) {
                if (kind(cells[i]) == CALL) {
                    calls++;
                }
            }
            return calls;
        }

        int countVars() {
            int vars = 0;
            for (int i = 0; i < size; i++) {
                if (kind(cells[i]) == VAR && indexOf(cells[i], cells, i) == NONE) {
                    vars++;
                }
            }
            return vars;
        }

        /** Puts the VARS by their ORDER into a row: how many. */
        int listVars(int[] into) {
            int vars = 0;
            for (int i = 0; i < size; i++) {
                boolean isNew = kind(cells[i]) == VAR && indexOf(cells[i], into, vars) == NONE;
                if (isNew && vars < into.length) {
                    into[vars] = cells[i];
                    vars++;
                }
            }
            return vars;
        }
    }

    /** One CLAUSE; its VARS stand in the ORDER of the left side. */
    private static final class Clause {
        /** 4 in a CON, and 7 behind it. */
        static final int MOST_VARS = 11;

        final int[] vars;
        final Expr right;
        int varCount;
        int function;
        int con;

        Clause() {
            vars = new int[MOST_VARS];
            right = new Expr(Expr.MOST_COMING);
            varCount = 0;
            function = NONE;
            con = NONE;
        }

        void clear() {
            varCount = 0;
            function = NONE;
            con = NONE;
            right.clear();
        }

        boolean isCase() {
            return con != NONE;
        }

        int indexOfVar(int var) {
            return Expr.indexOf(var, vars, varCount);
        }

        void addVar(int var) {
            if (varCount < vars.length) {
                vars[varCount] = var;
                varCount++;
            }
        }
    }

    /** The CLAUSES in the order told. */
    private static final class Program {
        static final int MOST_CLAUSES = 40;

        final Clause[] clauses;
        int count;

        Program() {
            clauses = new Clause[MOST_CLAUSES];
            for (int i = 0; i < MOST_CLAUSES; i++) {
                clauses[i] = new Clause();
            }
            count = 0;
        }

        void clear() {
            count = 0;
        }

        Clause clauseAt(int k) {
            return k >= 0 && k < count && k < clauses.length ? clauses[k] : null;
        }

        /** The clause behind the last one, empty; it is none of the program yet. */
        Clause spareClause() {
            if (count >= clauses.length) {
                return null;
            }
            clauses[count].clear();
            return clauses[count];
        }

        void keepSpare() {
            if (count < clauses.length) {
                count++;
            }
        }

        /** The first clause of a function: it shows whether that is told, and how. */
        Clause firstOf(int function) {
            for (int i = 0; i < count; i++) {
                if (clauses[i].function == function) {
                    return clauses[i];
                }
            }
            return null;
        }

        Clause caseOf(int function, int con) {
            for (int i = 0; i < count; i++) {
                if (clauses[i].function == function && clauses[i].con == con) {
                    return clauses[i];
                }
            }
            return null;
        }

        /** Whether a clause can't be told behind those that are here. */
        boolean contradicts(Clause next) {
            Clause first = firstOf(next.function);
            if (first == null) {
                return false;
            }
            return !first.isCase() || !next.isCase() || caseOf(next.function, next.con) != null;
        }

        int countFunctions() {
            int functions = 0;
            for (int i = 0; i < count; i++) {
                if (firstOf(clauses[i].function) == clauses[i]) {
                    functions++;
                }
            }
            return functions;
        }

        int countAtOnce() {
            int functions = 0;
            for (int i = 0; i < count; i++) {
                if (!clauses[i].isCase()) {
                    functions++;
                }
            }
            return functions;
        }

        int countRight() {
            int sizes = 0;
            for (int i = 0; i < count; i++) {
                sizes += clauses[i].right.size;
            }
            return sizes;
        }
    }

    /** The bound VARS, and one behind the other what they are bound to. */
    private static final class Bound {
        /** Above the 161 that a full tape can tell. */
        static final int MOST_BOUND = 200;

        final int[] vars;
        final int[] stops;
        final Expr values;
        int count;

        Bound() {
            vars = new int[MOST_BOUND];
            stops = new int[MOST_BOUND];
            values = new Expr(Reader.TAPE_ROOM);
            count = 0;
        }

        void clear() {
            count = 0;
            values.clear();
        }

        boolean has(int var) {
            return Expr.indexOf(var, vars, count) != NONE;
        }

        void add(int var, Expr value) {
            if (count < MOST_BOUND) {
                values.addAll(value);
                vars[count] = var;
                stops[count] = values.size;
                count++;
            }
        }

        /** An expression becomes another one with what is bound in place of its VARS. */
        void fill(Expr from, Expr into) {
            into.clear();
            for (int i = 0; i < from.size; i++) {
                int cell = from.cellAt(i);
                int index = Expr.kind(cell) == Expr.VAR ? Expr.indexOf(cell, vars, count) : NONE;
                if (index == NONE) {
                    into.add(cell);
                } else {
                    into.addPart(values, index == 0 ? 0 : stops[index - 1], stops[index]);
                }
            }
        }
    }

    /** The tape, and the reading of it; a reading that fails leaves the FAULT's place. */
    private static final class Reader {
        static final int TAPE_ROOM = 800;
        static final int MOST_OPEN = 20;
        static final int MOST_OF_CON = 4;
        static final int MOST_OF_CALL = 8;
        /** How a thing that was begun goes on. */
        static final int FAILED = 0;
        static final int OPENED = 1;
        static final int CLOSED = 2;

        final byte[] tape;
        /** The things whose ( are open, by their cells' places, and how many arguments came. */
        final int[] heads;
        final int[] counts;
        final Expr value;
        int length;
        int at;
        int open;
        int faultAt;

        Reader() {
            tape = new byte[TAPE_ROOM];
            heads = new int[MOST_OPEN];
            counts = new int[MOST_OPEN];
            value = new Expr(Expr.MOST_TOLD);
            length = 0;
            at = 0;
            open = 0;
            faultAt = NONE;
        }

        void addWord(int word) {
            for (int shift = 24; shift >= 0 && length < TAPE_ROOM; shift -= 8) {
                tape[length] = (byte) (word >> shift);
                length++;
            }
        }

        boolean cut(int n) {
            if (n < 0 || n > length) {
                return false;
            }
            length = n;
            return true;
        }

        boolean readProgram(Program into) {
            at = 0;
            into.clear();
            for (int k = 0; k <= Program.MOST_CLAUSES && at < length; k++) {
                if (!readClause(into)) {
                    return false;
                }
            }
            return true;
        }

        /** The whole tape as one expression. */
        boolean readWhole(Expr into) {
            at = 0;
            return readExpr(into, null, false) && (at == length || fail(at));
        }

        boolean readBound(Bound into) {
            at = 0;
            into.clear();
            if (length == 0) {
                return true;
            }
            for (int k = 0; k < Bound.MOST_BOUND; k++) {
                if (!readBinding(into)) {
                    return false;
                }
                if (at == length) {
                    return true;
                }
                if (!expect(';')) {
                    return false;
                }
            }
            return fail(at);
        }

        private boolean readBinding(Bound into) {
            int start = at;
            if (!isVarLetter(peek())) {
                return fail(at);
            }
            int var = readName('m');
            if (into.has(var)) {
                return fail(start);
            }
            if (!expect('=') || !readExpr(value, null, true)) {
                return false;
            }
            into.add(var, value);
            return true;
        }

        private boolean readClause(Program into) {
            int start = at;
            Clause clause = into.spareClause();
            if (clause == null || !isFunctionLetter(peek())) {
                return fail(at);
            }
            int name = readName('a');
            if (!expect('(')) {
                return false;
            }
            int arguments = readPatterns(clause);
            if (arguments == NONE) {
                return false;
            }
            clause.function = Expr.cell(Expr.CALL, arguments, name);
            if (!expect('=')) {
                return false;
            }
            if (into.contradicts(clause)) {
                return fail(start);
            }
            if (!readExpr(clause.right, clause, false) || !expect(';')) {
                return false;
            }
            into.keepSpare();
            return true;
        }

        /** The PATTERNS and the ) behind them: how many; NONE: a FAULT. */
        private int readPatterns(Clause clause) {
            if (peek() == ')') {
                at++;
                return 0;
            }
            for (int count = 1; count <= MOST_OF_CALL; count++) {
                boolean isCase = count == 1 && isConLetter(peek());
                if (!(isCase ? readCase(clause) : readLeftVar(clause))) {
                    return NONE;
                }
                if (peek() == ')') {
                    at++;
                    return count;
                }
                if (count == MOST_OF_CALL || peek() != ',') {
                    break;
                }
                at++;
            }
            fail(at);
            return NONE;
        }

        private boolean readCase(Clause clause) {
            int letter = peek() - 'A';
            at++;
            clause.con = Expr.cell(Expr.CON, 0, letter);
            if (peek() != '(') {
                return true;
            }
            at++;
            for (int count = 1; count <= MOST_OF_CON; count++) {
                if (!readLeftVar(clause)) {
                    return false;
                }
                if (peek() == ')') {
                    at++;
                    clause.con = Expr.cell(Expr.CON, count, letter);
                    return true;
                }
                if (count == MOST_OF_CON || peek() != ',') {
                    break;
                }
                at++;
            }
            return fail(at);
        }

        private boolean readLeftVar(Clause clause) {
            int start = at;
            if (!isVarLetter(peek())) {
                return fail(at);
            }
            int var = readName('m');
            if (clause.indexOfVar(var) != NONE) {
                return fail(start);
            }
            clause.addVar(var);
            return true;
        }

        /** An expression: of a right side with its clause's left side, else with null for that. */
        private boolean readExpr(Expr into, Clause left, boolean consAlone) {
            into.clear();
            open = 0;
            for (int round = 0; round <= Expr.MOST_TOLD; round++) {
                if (into.size >= Expr.MOST_TOLD || open >= MOST_OPEN) {
                    return fail(at);
                }
                int thing = consAlone ? readCon(into) : readThing(into, left);
                if (thing == CLOSED) {
                    thing = closeThings(into);
                }
                if (thing == FAILED) {
                    return false;
                }
                if (open == 0) {
                    return true;
                }
            }
            return fail(at);
        }

        private int readThing(Expr into, Clause left) {
            int letter = peek();
            if (isVarLetter(letter)) {
                return readVar(into, left);
            }
            if (isFunctionLetter(letter)) {
                return readCall(into);
            }
            if (letter == '!') {
                at++;
                into.add(Expr.STUCK_CELL);
                return CLOSED;
            }
            return readCon(into);
        }

        private int readVar(Expr into, Clause left) {
            int start = at;
            int var = readName('m');
            if (left != null && left.indexOfVar(var) == NONE) {
                fail(start);
                return FAILED;
            }
            into.add(Expr.cell(Expr.VAR, 0, var));
            return CLOSED;
        }

        private int readCon(Expr into) {
            if (!isConLetter(peek())) {
                fail(at);
                return FAILED;
            }
            into.add(Expr.cell(Expr.CON, 0, peek() - 'A'));
            at++;
            return peek() == '(' ? openThing(into) : CLOSED;
        }

        private int readCall(Expr into) {
            into.add(Expr.cell(Expr.CALL, 0, readName('a')));
            if (peek() != '(') {
                fail(at);
                return FAILED;
            }
            int opened = openThing(into);
            if (peek() == ')') {
                open--;
                at++;
                return CLOSED;
            }
            return opened;
        }

        private int openThing(Expr into) {
            at++;
            if (open < MOST_OPEN) {
                heads[open] = into.size - 1;
                counts[open] = 0;
                open++;
            }
            return OPENED;
        }

        /** Behind a whole thing: all the ) here; OPENED if a , lets another argument come. */
        private int closeThings(Expr into) {
            for (; open > 0; open--) {
                int head = heads[open - 1];
                int most = into.kindAt(head) == Expr.CON ? MOST_OF_CON : MOST_OF_CALL;
                counts[open - 1]++;
                if (peek() == ',' && counts[open - 1] < most) {
                    at++;
                    return OPENED;
                }
                if (!expect(')')) {
                    return FAILED;
                }
                into.setArity(head, counts[open - 1]);
            }
            return CLOSED;
        }

        /** A letter and up to two digits: its number among the names of such letters. */
        private int readName(int firstLetter) {
            int name = (peek() - firstLetter) * Expr.NAMES_OF_LETTER;
            at++;
            int digit = peek();
            if (!isDigit(digit)) {
                return name;
            }
            at++;
            int number = digit - '0';
            if (number > 0 && isDigit(peek())) {
                number = number * 10 + peek() - '0';
                at++;
            }
            return name + number + 1;
        }

        private int peek() {
            return at >= 0 && at < length && at < TAPE_ROOM ? tape[at] & 255 : NONE;
        }

        private boolean expect(int sign) {
            if (peek() != sign) {
                return fail(at);
            }
            at++;
            return true;
        }

        private boolean fail(int place) {
            faultAt = place;
            return false;
        }

        private static boolean isFunctionLetter(int sign) {
            return sign >= 'a' && sign <= 'l';
        }

        private static boolean isVarLetter(int sign) {
            return sign >= 'm' && sign <= 'z';
        }

        private static boolean isConLetter(int sign) {
            return sign >= 'A' && sign <= 'Z';
        }

        private static boolean isDigit(int sign) {
            return sign >= '0' && sign <= '9';
        }
    }

    /** What was written latest. */
    private static final class Writer {
        /** Above the SIZE of what a RUN can end with, at 6 bytes a thing. */
        static final int ROOM = 73728;
        /** Above how deep things can lie in one another in what a RUN ends with. */
        static final int MOST_OPEN = 512;

        final byte[] bytes;
        final int[] lacking;
        int count;

        Writer() {
            bytes = new byte[ROOM];
            lacking = new int[MOST_OPEN];
            count = 0;
        }

        int byteAt(int k) {
            return k >= 0 && k < count && k < ROOM ? bytes[k] : NONE;
        }

        void clear() {
            count = 0;
        }

        void put(int sign) {
            if (count < ROOM) {
                bytes[count] = (byte) sign;
                count++;
            }
        }

        void putProgram(Program program) {
            for (int k = 0; k < program.count; k++) {
                Clause clause = program.clauseAt(k);
                if (clause != null) {
                    putLeft(clause);
                    put('=');
                    putExpr(clause.right);
                    put(';');
                }
            }
        }

        void putExpr(Expr expr) {
            int open = 0;
            for (int i = 0; i < expr.size; i++) {
                int cell = expr.cellAt(i);
                putThing(cell);
                int arity = Expr.arity(cell);
                if (arity > 0 && open < MOST_OPEN) {
                    put('(');
                    lacking[open] = arity;
                    open++;
                } else {
                    open = closeThings(open);
                }
            }
        }

        /** Behind a whole thing: each ) or the , that comes: how many ( are open then. */
        private int closeThings(int open) {
            for (int last = open - 1; last >= 0; last--) {
                lacking[last]--;
                if (lacking[last] > 0) {
                    put(',');
                    return last + 1;
                }
                put(')');
            }
            return 0;
        }

        private void putLeft(Clause clause) {
            int inCon = clause.isCase() ? Expr.arity(clause.con) : 0;
            putName('a', Expr.symbol(clause.function));
            put('(');
            if (clause.isCase()) {
                put('A' + Expr.symbol(clause.con));
                if (inCon > 0) {
                    put('(');
                    putVars(clause, 0, inCon);
                    put(')');
                }
                if (clause.varCount > inCon) {
                    put(',');
                }
            }
            putVars(clause, inCon, clause.varCount);
            put(')');
        }

        private void putVars(Clause clause, int start, int stop) {
            for (int i = start; i < stop && i < clause.vars.length; i++) {
                if (i > start) {
                    put(',');
                }
                putName('m', clause.vars[i]);
            }
        }

        private void putThing(int cell) {
            int kind = Expr.kind(cell);
            if (kind == Expr.VAR) {
                putName('m', cell);
            } else if (kind == Expr.CON) {
                put('A' + Expr.symbol(cell));
            } else if (kind == Expr.STUCK) {
                put('!');
            } else {
                putName('a', Expr.symbol(cell));
                if (Expr.arity(cell) == 0) {
                    put('(');
                    put(')');
                }
            }
        }

        private void putName(int firstLetter, int name) {
            put(firstLetter + name / Expr.NAMES_OF_LETTER);
            int number = name % Expr.NAMES_OF_LETTER - 1;
            if (number >= 10) {
                put('0' + number / 10);
            }
            if (number >= 0) {
                put('0' + number % 10);
            }
        }
    }

    /** Finds NEXT, does STEPS, and RUNS. */
    private static final class Runner {
        /** How a RUN ends; READY: there is a STEP to do. */
        static final int DONE = 0;
        static final int STUCK = 1;
        static final int MANY_STEPS = 2;
        static final int LARGE = 3;
        static final int READY = 4;
        static final int BLOCKED = 5;
        static final int MOST_STEPS = 200;
        static final int MOST_SIZE = 120;

        /** Where the parts begin that come in place of a clause's VARS, and where the last ends. */
        final int[] starts;
        Expr now;
        Expr spare;
        /** Where NEXT is, the clause for it, and the VAR that blocks it. */
        int nextAt;
        Clause nextClause;
        int blocking;
        int ended;
        int steps;
        int greatest;
        int deepest;

        Runner() {
            starts = new int[Clause.MOST_VARS + 1];
            now = new Expr(Expr.MOST_MADE);
            spare = new Expr(Expr.MOST_MADE);
            nextAt = 0;
            nextClause = null;
            blocking = NONE;
            ended = DONE;
            steps = 0;
            greatest = 0;
            deepest = 0;
        }

        /** A RUN; what is at its end is in now. */
        void perform(Program program, Expr start, Bound bound) {
            bound.fill(start, now);
            steps = 0;
            deepest = 0;
            greatest = now.size;
            ended = stateOf(program);
            for (int round = 0; round < MOST_STEPS && ended == READY; round++) {
                deepest = Math.max(deepest, now.deepAt(nextAt));
                replaceNext();
                steps++;
                greatest = Math.max(greatest, now.size);
                ended = stateOf(program);
            }
            if (ended == READY) {
                ended = MANY_STEPS;
            }
        }

        /** One STEP of a RUN: how it ended ahead of that, or READY; now has what it made. */
        int performOne(Program program, Expr start, Bound bound) {
            bound.fill(start, now);
            int state = undoneState(program);
            if (state == READY) {
                replaceNext();
            }
            return state;
        }

        int answer(int what) {
            switch (what) {
                case 0:
                    return ended;
                case 1:
                    return steps;
                case 2:
                    return now.size;
                case 3:
                    return greatest;
                default:
                    return NONE;
            }
        }

        /** NEXT of the call at an index: READY, BLOCKED or STUCK. */
        int findNext(Program program, Expr expr, int index) {
            for (int i = index; i >= 0 && i < expr.size; i++) {
                int function = expr.cellAt(i);
                Clause first = Expr.kind(function) == Expr.CALL ? program.firstOf(function) : null;
                nextAt = i;
                nextClause = first;
                if (first == null) {
                    return STUCK;
                }
                if (!first.isCase()) {
                    return READY;
                }
                int argument = expr.cellAt(i + 1);
                int kind = Expr.kind(argument);
                if (kind == Expr.VAR) {
                    blocking = argument;
                    return BLOCKED;
                }
                if (kind == Expr.CON) {
                    nextClause = program.caseOf(function, argument);
                    return nextClause == null ? STUCK : READY;
                }
            }
            return STUCK;
        }

        /** An expression becomes another one with a STEP done by a clause at an index. */
        void makeStep(Expr from, int index, Clause clause, Expr into) {
            into.clear();
            into.addPart(from, 0, index);
            // a CON's arguments and those behind it follow one another as the clause's VARS do
            int start = index + (clause.isCase() ? 2 : 1);
            starts[0] = start;
            for (int i = 0; i < clause.varCount && i + 1 < starts.length; i++) {
                start = from.behind(start);
                starts[i + 1] = start;
            }
            addRight(from, clause, into);
            into.addPart(from, start, from.size);
        }

        private void addRight(Expr from, Clause clause, Expr into) {
            Expr right = clause.right;
            for (int i = 0; i < right.size; i++) {
                int cell = right.cellAt(i);
                int var = Expr.kind(cell) == Expr.VAR ? clause.indexOfVar(cell) : NONE;
                if (var == NONE || var + 1 >= starts.length) {
                    into.add(cell);
                } else {
                    into.addPart(from, starts[var], starts[var + 1]);
                }
            }
        }

        private int stateOf(Program program) {
            return now.size > MOST_SIZE ? LARGE : undoneState(program);
        }

        private int undoneState(Program program) {
            int first = now.firstUndone();
            if (first == NONE) {
                return DONE;
            }
            return findNext(program, now, first) == READY ? READY : STUCK;
        }

        private void replaceNext() {
            if (nextClause == null) {
                return;
            }
            makeStep(now, nextAt, nextClause, spare);
            Expr made = spare;
            spare = now;
            now = made;
        }
    }

    /** Compares expressions of a SIZE up to 40; keeps what stands for VARS. */
    private static final class Matcher {
        static final int ROOM = Expr.MOST_TOLD;

        /** VARS of one expression, by their ORDER; of the other one, or where its parts begin. */
        final int[] vars;
        final int[] others;
        /** What stands for each VAR: the part from a start to a stop. */
        final int[] starts;
        final int[] stops;
        final int[] behindOne;
        final int[] behindOther;
        final boolean[] coupled;
        final boolean[] embedded;
        boolean isCoupled;
        boolean isEmbedded;
        int count;

        Matcher() {
            vars = new int[ROOM];
            others = new int[ROOM];
            starts = new int[ROOM];
            stops = new int[ROOM];
            behindOne = new int[ROOM];
            behindOther = new int[ROOM];
            coupled = new boolean[ROOM * ROOM];
            embedded = new boolean[ROOM * ROOM];
            isCoupled = false;
            isEmbedded = false;
            count = 0;
        }

        boolean isRenaming(Expr one, Expr other) {
            count = 0;
            if (one.size != other.size) {
                return false;
            }
            for (int i = 0; i < one.size; i++) {
                int cell = one.cellAt(i);
                int otherCell = other.cellAt(i);
                if (Expr.kind(cell) == Expr.VAR && Expr.kind(otherCell) == Expr.VAR) {
                    if (!pairVars(cell, otherCell)) {
                        return false;
                    }
                } else if (cell != otherCell) {
                    return false;
                }
            }
            return true;
        }

        /** Whether one is that with parts in place of VARS; keeps those parts by VARS' ORDER. */
        boolean isInstance(Expr one, Expr general) {
            count = 0;
            int at = 0;
            for (int i = 0; i < general.size; i++) {
                int cell = general.cellAt(i);
                if (at >= one.size) {
                    return false;
                }
                if (Expr.kind(cell) == Expr.VAR) {
                    if (!standFor(cell, one, at)) {
                        return false;
                    }
                    at = one.behind(at);
                } else if (cell == one.cellAt(at)) {
                    at++;
                } else {
                    return false;
                }
            }
            return at == one.size;
        }

        /** The COMMON form, its VARS numbered from the first one on; keeps its BINDINGS. */
        void makeCommon(Expr one, Expr other, Expr into, int firstVar) {
            into.clear();
            count = 0;
            int at = 0;
            int otherAt = 0;
            for (int round = 0; round < one.size && at < one.size; round++) {
                int cell = one.cellAt(at);
                if (cell == other.cellAt(otherAt) && Expr.kind(cell) != Expr.VAR) {
                    into.add(cell);
                    at++;
                    otherAt++;
                } else {
                    int pair = indexOfPair(one, at, other, otherAt);
                    into.add(Expr.cell(Expr.VAR, 0, firstVar + pair));
                    at = one.behind(at);
                    otherAt = other.behind(otherAt);
                }
            }
        }

        private boolean pairVars(int var, int otherVar) {
            int index = Expr.indexOf(var, vars, count);
            if (index != Expr.indexOf(otherVar, others, count)) {
                return false;
            }
            if (index == NONE && count < ROOM) {
                vars[count] = var;
                others[count] = otherVar;
                count++;
            }
            return true;
        }

        private boolean standFor(int var, Expr one, int at) {
            int index = Expr.indexOf(var, vars, count);
            if (index != NONE) {
                return one.samePart(starts[index], one, at);
            }
            if (count < ROOM) {
                vars[count] = var;
                starts[count] = at;
                stops[count] = one.behind(at);
                count++;
            }
            return true;
        }

        private int indexOfPair(Expr one, int at, Expr other, int otherAt) {
            for (int i = 0; i < count; i++) {
                if (one.samePart(starts[i], one, at) && other.samePart(others[i], other, otherAt)) {
                    return i;
                }
            }
            if (count >= ROOM) {
                return 0;
            }
            starts[count] = at;
            stops[count] = one.behind(at);
            others[count] = otherAt;
            count++;
            return count - 1;
        }

        /** Finds whether one is COUPLED, EMBEDDED in the other, and first each part in each. */
        void compare(Expr one, Expr other) {
            isCoupled = false;
            isEmbedded = false;
            if (one.size < 1 || other.size < 1 || one.size > ROOM || other.size > ROOM) {
                return;
            }
            for (int i = 0; i < one.size; i++) {
                behindOne[i] = one.behind(i);
            }
            for (int j = 0; j < other.size; j++) {
                behindOther[j] = other.behind(j);
            }
            for (int i = one.size - 1; i >= 0; i--) {
                for (int j = other.size - 1; j >= 0; j--) {
                    boolean pair = arePartsCoupled(one, i, other, j);
                    coupled[i * ROOM + j] = pair;
                    embedded[i * ROOM + j] = pair || isInArgument(i, other, j);
                }
            }
            isCoupled = coupled[0];
            isEmbedded = embedded[0];
        }

        private boolean arePartsCoupled(Expr one, int i, Expr other, int j) {
            int cell = one.cellAt(i);
            int otherCell = other.cellAt(j);
            if (Expr.kind(cell) == Expr.VAR) {
                return Expr.kind(otherCell) == Expr.VAR;
            }
            if (cell != otherCell) {
                return false;
            }
            int part = i + 1;
            int otherPart = j + 1;
            for (int k = 0; k < Expr.arity(cell); k++) {
                if (part >= ROOM || otherPart >= ROOM || !embedded[part * ROOM + otherPart]) {
                    return false;
                }
                part = behindOne[part];
                otherPart = behindOther[otherPart];
            }
            return true;
        }

        private boolean isInArgument(int i, Expr other, int j) {
            int part = j + 1;
            int arity = Expr.arity(other.cellAt(j));
            for (int k = 0; k < arity && part < ROOM; k++) {
                if (embedded[i * ROOM + part]) {
                    return true;
                }
                part = behindOther[part];
            }
            return false;
        }
    }

    /** A NODE; its object is used again by each TO DRIVE. */
    private static final class Node {
        static final int VAR = 0;
        static final int CON = 1;
        static final int STEP = 2;
        static final int SPLIT = 3;
        static final int FOLDED = 4;
        static final int LET = 5;
        static final int STUCK = 6;
        static final int BY_SIZE = 0;
        static final int BY_DEEP = 1;

        final Expr expr;
        final int[] vars;
        /** What comes of it. */
        final Expr coming;
        int varCount;
        int kind;
        int which;
        int deep;
        int number;
        int below;
        int function;
        /** The VAR that blocks it. */
        int blocking;
        /** Below a SPLIT one: its CASE's CON, and the first of the new VARS in that. */
        int con;
        int conVar;
        boolean isFoldedTo;
        Node fold;
        Node up;
        Node first;
        Node last;
        Node next;

        Node() {
            expr = new Expr(Expr.MOST_TOLD);
            vars = new int[Expr.MOST_TOLD];
            coming = new Expr(Expr.MOST_COMING);
            varCount = 0;
            begin(null);
        }

        /** Begins it anew, as the last one below another, or as NODE 0. */
        void begin(Node above) {
            kind = VAR;
            number = NONE;
            function = NONE;
            blocking = NONE;
            con = NONE;
            conVar = NONE;
            isFoldedTo = false;
            fold = null;
            next = null;
            dropBelow();
            up = above;
            which = above == null ? NONE : above.below;
            deep = above == null ? 0 : above.deep + 1;
            if (above != null) {
                above.addBelow(this);
            }
        }

        void dropBelow() {
            below = 0;
            first = null;
            last = null;
        }

        int measure(int what) {
            if (what == BY_SIZE) {
                return expr.size;
            }
            return what == BY_DEEP ? deep : varCount;
        }

        private void addBelow(Node node) {
            if (last == null) {
                first = node;
            } else {
                last.next = node;
            }
            last = node;
            below++;
        }
    }

    /** TO DRIVE: the NODES in a line, each ahead of what is below it, from the left. */
    private static final class Tree {
        static final int WELL = 0;
        static final int TOO_MANY = -2;
        static final int TOO_LARGE = -3;
        static final int MOST_LOOKED = 80;
        static final int MOST_MADE = 120;
        /** Above 40 things with each VAR a CON of 4. */
        static final int SPLIT_ROOM = 256;

        final Runner runner;
        final Matcher matcher;
        final Node[] pool;
        final Node[] line;
        final Expr part;
        final Expr made;
        Program program;
        /** The NODE above that is COUPLED in the one that is looked at. */
        Node grown;
        int count;
        int madeCount;
        int looked;
        int generalized;
        /** The first NODE in the line that was not LOOKED at. */
        int nextLook;
        int nextVar;

        Tree(Runner runner, Matcher matcher) {
            this.runner = runner;
            this.matcher = matcher;
            pool = new Node[MOST_MADE];
            line = new Node[MOST_MADE];
            for (int i = 0; i < MOST_MADE; i++) {
                pool[i] = new Node();
                line[i] = pool[i];
            }
            part = new Expr(SPLIT_ROOM);
            made = new Expr(Expr.MOST_MADE);
            program = null;
            grown = null;
            clear();
        }

        /** TO DRIVE a goal, until all are LOOKED at, or it breaks off. */
        int grow(Program by, Expr goal) {
            clear();
            program = by;
            int status = addNode(null, goal);
            while (looked < MOST_LOOKED && status == WELL && nextLook < count) {
                Node node = line[nextLook];
                looked++;
                nextLook++;
                node.kind = findKind(node);
                status = addBelow(node);
            }
            if (status == WELL && nextLook < count) {
                return TOO_MANY;
            }
            numberNodes();
            return status;
        }

        Node nodeAt(int k) {
            return k >= 0 && k < count && k < line.length ? line[k] : null;
        }

        int countKind(int kind) {
            int nodes = 0;
            for (int i = 0; i < count; i++) {
                if (line[i].kind == kind) {
                    nodes++;
                }
            }
            return nodes;
        }

        int greatest(int what) {
            int most = 0;
            for (int i = 0; i < count; i++) {
                most = Math.max(most, line[i].measure(what));
            }
            return most;
        }

        int numberAtRank(int place, int what) {
            for (int i = 0; i < count; i++) {
                if (rankOf(i, what) == place) {
                    return i;
                }
            }
            return NONE;
        }

        private int rankOf(int k, int what) {
            int own = line[k].measure(what);
            int ahead = 0;
            for (int i = 0; i < count; i++) {
                int other = line[i].measure(what);
                if (other > own || other == own && i < k) {
                    ahead++;
                }
            }
            return ahead;
        }

        private void clear() {
            count = 0;
            madeCount = 0;
            looked = 0;
            generalized = 0;
            nextLook = 0;
            nextVar = Expr.FIRST_NAMELESS;
        }

        private void numberNodes() {
            for (int i = 0; i < count; i++) {
                line[i].number = i;
                if (line[i].fold != null) {
                    line[i].fold.isFoldedTo = true;
                }
            }
        }

        private int findKind(Node node) {
            switch (node.expr.kindAt(0)) {
                case Expr.VAR:
                    return Node.VAR;
                case Expr.CON:
                    return Node.CON;
                case Expr.CALL:
                    return findKindOfCall(node);
                default:
                    return Node.STUCK;
            }
        }

        private int findKindOfCall(Node node) {
            int state = runner.findNext(program, node.expr, 0);
            if (state == Runner.STUCK) {
                return Node.STUCK;
            }
            int kind = state == Runner.BLOCKED ? Node.SPLIT : Node.STEP;
            if (kind == Node.SPLIT) {
                node.blocking = runner.blocking;
            }
            node.fold = nearestRenamed(node, kind);
            if (node.fold != null) {
                return Node.FOLDED;
            }
            grown = nearestCoupled(node, kind);
            return grown == null ? kind : Node.LET;
        }

        private Node nearestRenamed(Node node, int kind) {
            for (Node above = node.up; above != null; above = above.up) {
                if (above.kind == kind && matcher.isRenaming(node.expr, above.expr)) {
                    return above;
                }
            }
            return null;
        }

        private Node nearestCoupled(Node node, int kind) {
            for (Node above = node.up; above != null; above = above.up) {
                // only like functions can be COUPLED, and what is larger never is
                if (above.kind == kind && above.expr.cellAt(0) == node.expr.cellAt(0)
                        && above.expr.size <= node.expr.size) {
                    matcher.compare(above.expr, node.expr);
                    if (matcher.isCoupled) {
                        return above;
                    }
                }
            }
            return null;
        }

        private int addBelow(Node node) {
            switch (node.kind) {
                case Node.CON:
                    return addArguments(node);
                case Node.STEP:
                    return addStepped(node);
                case Node.SPLIT:
                    return addCases(node);
                case Node.LET:
                    return addLet(node);
                default:
                    return WELL;
            }
        }

        /** A NODE that has grown from one above: it or that one becomes LET. */
        private int addLet(Node node) {
            if (grown == null) {
                return WELL;
            }
            if (matcher.isInstance(node.expr, grown.expr)) {
                made.become(grown.expr);
                return addParts(node, node.expr);
            }
            matcher.makeCommon(grown.expr, node.expr, made, nextVar);
            nextVar += matcher.count;
            generalized++;
            removeBelow(grown);
            grown.kind = Node.LET;
            return addParts(grown, grown.expr);
        }

        /** Below a LET: what was made, then what stands for its VARS. */
        private int addParts(Node node, Expr from) {
            int status = addNode(node, made);
            for (int i = 0; i < matcher.count && status == WELL; i++) {
                made.clear();
                made.addPart(from, matcher.starts[i], matcher.stops[i]);
                status = addNode(node, made);
            }
            return status;
        }

        private int addArguments(Node node) {
            int status = WELL;
            int start = 1;
            int arity = Expr.arity(node.expr.cellAt(0));
            for (int i = 0; i < arity && status == WELL; i++) {
                int stop = node.expr.behind(start);
                made.clear();
                made.addPart(node.expr, start, stop);
                status = addNode(node, made);
                start = stop;
            }
            return status;
        }

        private int addStepped(Node node) {
            if (runner.nextClause == null) {
                return WELL;
            }
            runner.makeStep(node.expr, runner.nextAt, runner.nextClause, made);
            return addNode(node, made);
        }

        private int addCases(Node node) {
            int nextAt = runner.nextAt;
            int function = node.expr.cellAt(nextAt);
            int status = WELL;
            for (int k = 0; k < program.count && status == WELL; k++) {
                Clause clause = program.clauseAt(k);
                if (clause != null && clause.function == function) {
                    fillSplit(node, clause.con);
                    runner.makeStep(part, nextAt, clause, made);
                    status = addNode(node, made);
                    if (status == WELL && node.last != null) {
                        node.last.con = clause.con;
                        node.last.conVar = nextVar;
                    }
                    nextVar += Expr.arity(clause.con);
                }
            }
            return status;
        }

        /** A NODE's expression with a CON of new VARS in place of the VAR that blocks it. */
        private void fillSplit(Node node, int con) {
            part.clear();
            for (int i = 0; i < node.expr.size; i++) {
                int cell = node.expr.cellAt(i);
                if (cell != node.blocking) {
                    part.add(cell);
                    continue;
                }
                part.add(con);
                for (int k = 0; k < Expr.arity(con); k++) {
                    part.add(Expr.cell(Expr.VAR, 0, nextVar + k));
                }
            }
        }

        /** Makes the last NODE below another one, whose others below have nothing below yet. */
        private int addNode(Node above, Expr expr) {
            if (expr.size > Expr.MOST_TOLD) {
                return TOO_LARGE;
            }
            if (madeCount >= MOST_MADE || count >= MOST_MADE) {
                return TOO_MANY;
            }
            Node node = pool[madeCount];
            madeCount++;
            node.expr.become(expr);
            node.varCount = node.expr.listVars(node.vars);
            node.begin(above);
            int place = above == null ? 0 : indexOf(above) + 1 + node.which;
            for (int i = count; i > place; i--) {
                line[i] = line[i - 1];
            }
            line[place] = node;
            count++;
            return WELL;
        }

        private void removeBelow(Node node) {
            int start = indexOf(node) + 1;
            int stop = start;
            for (; stop < count && line[stop].deep > node.deep; stop++) {
                line[stop].number = NONE;
            }
            for (int i = stop; i < count; i++) {
                line[i - stop + start] = line[i];
            }
            count -= stop - start;
            nextLook = start;
            node.dropBelow();
        }

        private int indexOf(Node node) {
            for (int i = 0; i < count; i++) {
                if (line[i] == node) {
                    return i;
                }
            }
            return 0;
        }
    }

    /** Makes a program out of a tree. */
    private static final class Residue {
        static final int TOO_MANY_ARGUMENTS = -4;
        static final int TOO_MANY_CLAUSES = -5;
        static final int TOO_LARGE = -6;
        /** Above 100 VARS with 100 things in place of each. */
        static final int ROOM = 10240;

        final Expr coming;
        final int[] arguments;
        int argumentCount;
        int functions;

        Residue() {
            coming = new Expr(ROOM);
            arguments = new int[Expr.MOST_TOLD + Reader.MOST_OF_CON];
            argumentCount = 0;
            functions = 0;
        }

        int make(Tree tree, Program into) {
            int status = nameFunctions(tree);
            // what is below a NODE has greater numbers
            for (int k = tree.count - 1; k >= 0 && status == Tree.WELL; k--) {
                status = findComing(tree.nodeAt(k));
            }
            if (status == Tree.WELL) {
                makeClauses(tree, into);
            }
            return status;
        }

        Expr goalOf(Tree tree) {
            Node node = tree.nodeAt(0);
            return node == null ? coming : node.coming;
        }

        private int nameFunctions(Tree tree) {
            functions = 0;
            int clauses = 0;
            int most = 0;
            for (int k = 0; k < tree.count; k++) {
                Node node = tree.nodeAt(k);
                if (node != null && isFunction(node)) {
                    node.function = functions;
                    functions++;
                    clauses += node.below;
                    most = Math.max(most, node.varCount);
                }
            }
            if (most > Reader.MOST_OF_CALL) {
                return TOO_MANY_ARGUMENTS;
            }
            return clauses > Program.MOST_CLAUSES ? TOO_MANY_CLAUSES : Tree.WELL;
        }

        private static boolean isFunction(Node node) {
            return node.kind == Node.SPLIT || node.kind == Node.STEP && node.isFoldedTo;
        }

        private int findComing(Node node) {
            if (node == null) {
                return Tree.WELL;
            }
            coming.clear();
            fillComing(node);
            if (coming.size > Expr.MOST_COMING) {
                return TOO_LARGE;
            }
            node.coming.become(coming);
            return Tree.WELL;
        }

        private void fillComing(Node node) {
            switch (node.kind) {
                case Node.VAR:
                    coming.add(node.expr.cellAt(0));
                    break;
                case Node.CON:
                    coming.add(node.expr.cellAt(0));
                    addBelow(node);
                    break;
                case Node.STEP:
                case Node.SPLIT:
                    if (node.function == NONE) {
                        addBelow(node);
                    } else {
                        addCall(node, node.function);
                    }
                    break;
                case Node.FOLDED:
                    addCall(node, node.fold == null ? 0 : node.fold.function);
                    break;
                case Node.LET:
                    addLet(node);
                    break;
                default:
                    coming.add(Expr.STUCK_CELL);
                    break;
            }
        }

        private void addBelow(Node node) {
            for (Node below = node.first; below != null; below = below.next) {
                coming.addAll(below.coming);
            }
        }

        /** A FOLDED one has the VARS that it calls with in the places of the other's own. */
        private void addCall(Node node, int function) {
            listArguments(node);
            coming.add(Expr.cell(Expr.CALL, argumentCount, Expr.FIRST_FUNCTION + function));
            for (int i = 0; i < argumentCount; i++) {
                coming.add(arguments[i]);
            }
        }

        private void addLet(Node node) {
            Node body = node.first;
            if (body == null) {
                return;
            }
            for (int i = 0; i < body.coming.size; i++) {
                int cell = body.coming.cellAt(i);
                int var = NONE;
                if (Expr.kind(cell) == Expr.VAR) {
                    var = Expr.indexOf(cell, body.vars, body.varCount);
                }
                Node value = var == NONE ? null : body.next;
                for (int k = 0; k < var && value != null; k++) {
                    value = value.next;
                }
                if (value == null) {
                    coming.add(cell);
                } else {
                    coming.addAll(value.coming);
                }
            }
        }

        /** Lists its VARS by ORDER, but the one that blocks first of all. */
        private void listArguments(Node node) {
            argumentCount = 0;
            if (node.blocking != NONE) {
                addArgument(node.blocking);
            }
            listOthers(node);
        }

        /** Lists the new VARS of a CASE's CON, then the VARS that don't block. */
        private void listLeftVars(Node node, Node below) {
            argumentCount = 0;
            for (int i = 0; i < Expr.arity(below.con); i++) {
                addArgument(below.conVar + i);
            }
            listOthers(node);
        }

        private void listOthers(Node node) {
            for (int i = 0; i < node.varCount && i < node.vars.length; i++) {
                if (node.vars[i] != node.blocking) {
                    addArgument(node.vars[i]);
                }
            }
        }

        private void addArgument(int var) {
            if (argumentCount < arguments.length) {
                arguments[argumentCount] = var;
                argumentCount++;
            }
        }

        private void makeClauses(Tree tree, Program into) {
            into.clear();
            for (int k = 0; k < tree.count; k++) {
                Node node = tree.nodeAt(k);
                if (node != null && node.function != NONE) {
                    for (Node below = node.first; below != null; below = below.next) {
                        makeClause(node, below, into);
                    }
                }
            }
        }

        private void makeClause(Node node, Node below, Program into) {
            Clause clause = into.spareClause();
            if (clause == null) {
                return;
            }
            listArguments(node);
            int name = Expr.FIRST_FUNCTION + node.function;
            clause.function = Expr.cell(Expr.CALL, argumentCount, name);
            if (node.kind == Node.SPLIT) {
                clause.con = below.con;
                listLeftVars(node, below);
            }
            for (int i = 0; i < argumentCount; i++) {
                clause.addVar(Expr.FIRST_M + i);
            }
            clause.right.addRenamed(below.coming, arguments, argumentCount);
            into.keepSpare();
        }
    }
}
