/**
 * Code of a small stack machine and its source, both ways: code is checked by heights, its loops
 * and choices are found again and written as text, text is read and made into code, and both are
 * run. The words in capitals are those of the document.
 */
public final class SourceDesk {
    public static final int REFUSED = -1;
    public static final int NONE = -2;
    public static final int FULL = -3;
    public static final int WRONG = -4;
    public static final int KNOTTED = -5;
    public static final int FAULT = -6;
    public static final int STOPPED = -7;

    private static final int PUSH = 0;
    private static final int LOAD = 1;
    private static final int STORE = 2;
    private static final int ADD = 3;
    private static final int SUB = 4;
    private static final int MUL = 5;
    private static final int LESS = 6;
    private static final int NOT = 7;
    private static final int JUMP = 8;
    private static final int UNLESS = 9;
    private static final int PRINT = 10;

    // The kinds of STATEMENTS are STORE and PRINT, by their op, and these.
    private static final int WHILE = 11;
    private static final int IF = 12;
    private static final int CHOICE = 13;

    private static final int CODE_ROOM = 30;
    private static final int DRAFT_ROOM = 120;
    // No INSTRUCTION stands for more than three characters of the TEXT.
    private static final int TEXT_ROOM = 3 * CODE_ROOM;
    // No STATEMENT has less than two INSTRUCTIONS.
    private static final int TREE_ROOM = CODE_ROOM / 2;
    private static final int STACK_ROOM = 16;
    private static final int OUTPUT_ROOM = 20;
    private static final int VARIABLES = 6;

    private static final int GREATEST_NUMBER = 99;
    private static final int GREATEST_HEIGHT = 8;
    private static final int GREATEST_LIMIT = 400;
    private static final int DEEPEST_EXPRESSION = 8;
    private static final int DEEPEST_STATEMENT = 6;
    private static final int FIRST_CHARACTER = 33;
    private static final int LAST_CHARACTER = 126;

    private static final int NOTHING = -1;

    private final Listing listing;
    private final Draft draft;
    private final Characters written;
    private final Tree tree;
    private final Machine machine;
    private int trouble;

    public SourceDesk() {
        listing = new Listing(CODE_ROOM);
        draft = new Draft();
        written = new Characters(TEXT_ROOM);
        tree = new Tree();
        machine = new Machine();
        trouble = NONE;
    }

    public int put(int op, int a) {
        if (!Listing.fits(op, a)) {
            return REFUSED;
        }
        return listing.add(op, a) ? listing.size() : FULL;
    }

    public boolean change(int p, int op, int a) {
        if (!listing.holds(p) || !Listing.fits(op, a)) {
            return false;
        }
        listing.set(p, op, a);
        return true;
    }

    public int clear(int what) {
        int had = REFUSED;
        if (what == 0) {
            had = listing.size();
            listing.drop();
        } else if (what == 1) {
            had = draft.row().size();
            draft.row().drop();
        }
        return had;
    }

    public int code(int p, int what) {
        if (what < 0 || what > 2) {
            return REFUSED;
        }
        if (what == 2) {
            return p == listing.size() || listing.holds(p) ? listing.heightBefore(p) : NONE;
        }
        return what == 0 ? listing.op(p) : listing.number(p);
    }

    public int verify() {
        return listing.leastWrong();
    }

    public int lift() {
        tree.drop();
        written.drop();
        trouble = listing.leastWrong();
        if (trouble != NONE) {
            return WRONG;
        }
        trouble = tree.make(listing);
        if (trouble != NONE) {
            tree.drop();
            return KNOTTED;
        }
        Scribe.write(tree, written);
        return written.size();
    }

    public int text(int k) {
        return k == -1 ? written.size() : written.at(k);
    }

    public int where() {
        return trouble;
    }

    public int letter(int c) {
        if (c < FIRST_CHARACTER || c > LAST_CHARACTER) {
            return REFUSED;
        }
        return draft.row().add(c) ? draft.row().size() : FULL;
    }

    public int copy() {
        if (written.size() > DRAFT_ROOM) {
            return FULL;
        }
        draft.row().become(written);
        return written.size();
    }

    public int read() {
        trouble = draft.translate();
        if (trouble != NONE) {
            return FAULT;
        }
        listing.become(draft.made());
        return listing.size();
    }

    public int run(int x, int limit) {
        if (limit < 0 || limit > GREATEST_LIMIT) {
            return REFUSED;
        }
        machine.start(x, limit);
        return machine.execute(listing) ? machine.printed() : STOPPED;
    }

    public int walk(int x, int limit) {
        if (limit < 0 || limit > GREATEST_LIMIT) {
            return REFUSED;
        }
        if (!tree.stands()) {
            return NONE;
        }
        machine.start(x, limit);
        return Walker.follow(tree, machine) ? machine.printed() : STOPPED;
    }

    public int output(int k) {
        return machine.kept(k);
    }

    public int count(int what) {
        switch (what) {
            case 0: return listing.size();
            case 1: return draft.row().size();
            case 2: return written.size();
            case 3: return machine.printed();
            case 4: return machine.done();
            case 5: return tree.size();
            case 6: return tree.sizeOf(WHILE);
            case 7: return tree.sizeOf(IF);
            case 8: return tree.sizeOf(CHOICE);
            case 9: return tree.depth();
            default: return what >= 10 && what < 10 + VARIABLES ? machine.variable(what - 10) : REFUSED;
        }
    }

    /** CODE: its INSTRUCTIONS and the HEIGHT before each PLACE. */
    private static final class Listing {
        private final int[] ops;
        private final int[] numbers;
        private final int[] heights;
        private int size;

        Listing(int room) {
            ops = new int[room];
            numbers = new int[room];
            heights = new int[room + 1];
            size = 0;
        }

        static boolean fits(int op, int a) {
            if (op < PUSH || op > PRINT) {
                return false;
            }
            int most = greatestNumber(op);
            return most == NOTHING || (a >= 0 && a <= most);
        }

        /** The greatest a of an op; NOTHING for ops without a. */
        private static int greatestNumber(int op) {
            switch (op) {
                case PUSH: return GREATEST_NUMBER;
                case LOAD: case STORE: return VARIABLES - 1;
                case JUMP: case UNLESS: return CODE_ROOM;
                default: return NOTHING;
            }
        }

        private static int rise(int op) {
            switch (op) {
                case PUSH: case LOAD: return 1;
                case NOT: case JUMP: return 0;
                default: return -1;
            }
        }

        int size() {
            return size;
        }

        boolean holds(int p) {
            return p >= 0 && p < size;
        }

        int op(int p) {
            return holds(p) ? ops[p] : NONE;
        }

        int number(int p) {
            return holds(p) ? numbers[p] : NONE;
        }

        int heightBefore(int p) {
            return p >= 0 && p <= size ? heights[p] : 0;
        }

        boolean add(int op, int a) {
            if (size >= ops.length) {
                return false;
            }
            size++;
            set(size - 1, op, a);
            return true;
        }

        void set(int p, int op, int a) {
            if (!holds(p)) {
                return;
            }
            ops[p] = op;
            numbers[p] = greatestNumber(op) == NOTHING ? 0 : a;
            for (int i = p; i < size; i++) {
                heights[i + 1] = heights[i] + rise(ops[i]);
            }
        }

        void drop() {
            size = 0;
        }

        void become(Listing other) {
            size = Math.min(other.size, ops.length);
            System.arraycopy(other.ops, 0, ops, 0, size);
            System.arraycopy(other.numbers, 0, numbers, 0, size);
            System.arraycopy(other.heights, 0, heights, 0, size + 1);
        }

        int leastWrong() {
            for (int p = 0; p < size; p++) {
                if (isWrong(p)) {
                    return p;
                }
            }
            return heightBefore(size) == 0 ? NONE : size;
        }

        private boolean isWrong(int p) {
            int height = heightBefore(p);
            switch (op(p)) {
                case PUSH: case LOAD: return height >= GREATEST_HEIGHT;
                case ADD: case SUB: case MUL: case LESS: return height < 2;
                case NOT: return height < 1;
                case JUMP: return height != 0 || !isLanding(number(p));
                case UNLESS: return height != 1 || !isLanding(number(p));
                default: return height != 1;
            }
        }

        private boolean isLanding(int p) {
            return p <= size && heightBefore(p) == 0;
        }
    }

    /** A row of characters: the TEXT, or what the DRAFT is made of. */
    private static final class Characters {
        private final char[] row;
        private int size;

        Characters(int room) {
            row = new char[room];
            size = 0;
        }

        int size() {
            return size;
        }

        int at(int k) {
            return k >= 0 && k < size ? row[k] : NONE;
        }

        boolean add(int c) {
            if (size >= row.length) {
                return false;
            }
            row[size] = (char) c;
            size++;
            return true;
        }

        void drop() {
            size = 0;
        }

        void become(Characters other) {
            size = Math.min(other.size, row.length);
            System.arraycopy(other.row, 0, row, 0, size);
        }
    }

    /**
     * THE TREE. Its STATEMENTS are numbered in the order of the text; their EXPRESSIONS stay in
     * a copy of the CODE, which may change before the TREE is run.
     */
    private static final class Tree {
        private final Listing source;
        private final int[] kinds;
        private final int[] froms;
        private final int[] marks;
        private final int[] ends;
        private final int[] parts;
        private final int[] others;
        private final int[] followers;
        // The first PLACE of the part of an EXPRESSION that ends at a PLACE.
        private final int[] begins;
        private int size;
        private int depth;
        private int knot;
        private boolean stands;

        Tree() {
            source = new Listing(CODE_ROOM);
            kinds = new int[TREE_ROOM];
            froms = new int[TREE_ROOM];
            marks = new int[TREE_ROOM];
            ends = new int[TREE_ROOM];
            parts = new int[TREE_ROOM];
            others = new int[TREE_ROOM];
            followers = new int[TREE_ROOM];
            begins = new int[CODE_ROOM];
            size = 0;
            depth = 0;
            knot = NONE;
            stands = false;
        }

        void drop() {
            size = 0;
            depth = 0;
            stands = false;
        }

        /** Takes CODE without WRONG PLACES; answers where it is KNOTTED, or NONE. */
        int make(Listing listing) {
            drop();
            source.become(listing);
            knot = NONE;
            grow(0, source.size(), 1);
            stands = knot == NONE;
            return knot;
        }

        /** Makes the TREE of the PLACES from p to q; answers its first STATEMENT. */
        private int grow(int p, int q, int level) {
            int first = NOTHING;
            int last = NOTHING;
            int place = p;
            for (int round = 0; round < TREE_ROOM && place < q; round++) {
                int next = growStatement(place, q, level);
                if (next == NOTHING) {
                    break;
                }
                if (last == NOTHING) {
                    first = next;
                } else {
                    followers[last] = next;
                }
                last = next;
                place = ends[next];
            }
            return first;
        }

        /** Answers NOTHING if the CODE is KNOTTED, in the STATEMENT or before it. */
        private int growStatement(int p, int q, int level) {
            if (knot != NONE) {
                return NOTHING;
            }
            int u = endOfExpression(p);
            int op = source.op(u);
            if (op == UNLESS) {
                return growBranch(p, u, q, level);
            }
            return op == STORE || op == PRINT ? add(op, p, u, u + 1, level) : tie(u);
        }

        private int growBranch(int p, int u, int q, int level) {
            int t = source.number(u);
            if (t <= u || t > q) {
                return tie(u);
            }
            int back = t - 1;
            boolean jumps = back > u && source.op(back) == JUMP;
            int e = jumps ? source.number(back) : NOTHING;
            boolean loops = jumps && e == p;
            boolean chooses = jumps && !loops && e >= t && e <= q;
            int kind = loops ? WHILE : chooses ? CHOICE : IF;
            int statement = add(kind, p, u, chooses ? e : t, level);
            if (statement == NOTHING) {
                return NOTHING;
            }
            parts[statement] = grow(u + 1, kind == IF ? t : back, level + 1);
            if (chooses) {
                others[statement] = grow(t, e, level + 1);
            }
            return statement;
        }

        private int tie(int u) {
            knot = u;
            return NOTHING;
        }

        private int add(int kind, int from, int mark, int end, int level) {
            if (size >= TREE_ROOM || level > TREE_ROOM) {
                return tie(mark);
            }
            int statement = size;
            size++;
            kinds[statement] = kind;
            froms[statement] = from;
            marks[statement] = mark;
            ends[statement] = end;
            parts[statement] = NOTHING;
            others[statement] = NOTHING;
            followers[statement] = NOTHING;
            depth = Math.max(depth, level);
            return statement;
        }

        private int endOfExpression(int p) {
            int u = p;
            while (u < source.size() && isPart(source.op(u))) {
                begins[u] = beginOf(u);
                u++;
            }
            return u;
        }

        private static boolean isPart(int op) {
            return op != STORE && op != PRINT && op != UNLESS && op != JUMP;
        }

        private int beginOf(int u) {
            int op = source.op(u);
            if (op == PUSH || op == LOAD) {
                return u;
            }
            int root = op == NOT ? u - 1 : leftOf(u);
            return root >= 0 ? begins[root] : 0;
        }

        /** The PLACE at which the left one of the two parts below PLACE u ends. */
        int leftOf(int u) {
            return u >= 1 && u <= CODE_ROOM ? begins[u - 1] - 1 : NOTHING;
        }

        boolean stands() {
            return stands;
        }

        int size() {
            return size;
        }

        int sizeOf(int kind) {
            int sum = 0;
            for (int i = 0; i < size; i++) {
                if (kinds[i] == kind) {
                    sum++;
                }
            }
            return sum;
        }

        int depth() {
            return depth;
        }

        int first() {
            return size > 0 ? 0 : NOTHING;
        }

        boolean holds(int statement) {
            return statement >= 0 && statement < size;
        }

        int kind(int statement) {
            return holds(statement) ? kinds[statement] : NOTHING;
        }

        /** The PLACE at which the EXPRESSION begins. */
        int from(int statement) {
            return holds(statement) ? froms[statement] : 0;
        }

        /** The PLACE behind the EXPRESSION: that of the STORE, PRINT or UNLESS. */
        int mark(int statement) {
            return holds(statement) ? marks[statement] : 0;
        }

        int part(int statement) {
            return holds(statement) ? parts[statement] : NOTHING;
        }

        int other(int statement) {
            return holds(statement) ? others[statement] : NOTHING;
        }

        int follower(int statement) {
            return holds(statement) ? followers[statement] : NOTHING;
        }

        Listing source() {
            return source;
        }
    }

    /** Writes a TREE as its TEXT. */
    private static final class Scribe {
        private Scribe() {
        }

        static void write(Tree tree, Characters page) {
            page.drop();
            writeFrom(tree, page, tree.first(), 0);
        }

        private static void writeFrom(Tree tree, Characters page, int first, int depth) {
            if (depth > TREE_ROOM) {
                return;
            }
            int statement = first;
            for (int round = 0; round < TREE_ROOM && tree.holds(statement); round++) {
                writeStatement(tree, page, statement, depth);
                statement = tree.follower(statement);
            }
        }

        private static void writeStatement(Tree tree, Characters page, int statement, int depth) {
            int kind = tree.kind(statement);
            int mark = tree.mark(statement);
            if (kind == STORE) {
                page.add('a' + tree.source().number(mark));
            }
            page.add(signOfStatement(kind));
            writeExpression(tree, page, mark - 1, 0);
            if (kind == STORE || kind == PRINT) {
                page.add(';');
                return;
            }
            writeBlock(tree, page, tree.part(statement), depth);
            if (kind == CHOICE) {
                page.add(':');
                writeBlock(tree, page, tree.other(statement), depth);
            }
        }

        private static void writeBlock(Tree tree, Characters page, int first, int depth) {
            page.add('{');
            writeFrom(tree, page, first, depth + 1);
            page.add('}');
        }

        private static char signOfStatement(int kind) {
            switch (kind) {
                case STORE: return '=';
                case PRINT: return '#';
                case WHILE: return '@';
                default: return '?';
            }
        }

        /** Writes the part of an EXPRESSION that ends at PLACE u. */
        private static void writeExpression(Tree tree, Characters page, int u, int depth) {
            if (!tree.source().holds(u) || depth > CODE_ROOM) {
                return;
            }
            int op = tree.source().op(u);
            if (op == PUSH) {
                writeNumber(page, tree.source().number(u));
            } else if (op == LOAD) {
                page.add('a' + tree.source().number(u));
            } else if (op == NOT) {
                page.add('!');
                writeExpression(tree, page, u - 1, depth + 1);
            } else {
                page.add('(');
                writeExpression(tree, page, tree.leftOf(u), depth + 1);
                page.add(signOfOp(op));
                writeExpression(tree, page, u - 1, depth + 1);
                page.add(')');
            }
        }

        private static void writeNumber(Characters page, int number) {
            if (number >= 10) {
                page.add('0' + number / 10);
            }
            page.add('0' + number % 10);
        }

        private static char signOfOp(int op) {
            switch (op) {
                case ADD: return '+';
                case SUB: return '-';
                case MUL: return '*';
                default: return '<';
            }
        }
    }

    /** THE DRAFT and its front end, which stops at the character at which it is at FAULT. */
    private static final class Draft {
        private final Characters row;
        private final Listing made;
        private int at;

        Draft() {
            row = new Characters(DRAFT_ROOM);
            // One more than CODE may have: a full one tells that there are too many.
            made = new Listing(CODE_ROOM + 1);
            at = 0;
        }

        Characters row() {
            return row;
        }

        Listing made() {
            return made;
        }

        /** Makes the CODE of the DRAFT; answers where it is at FAULT, or NONE. */
        int translate() {
            made.drop();
            at = 0;
            boolean whole = takeStatements(0) && at == row.size();
            return whole && made.size() <= CODE_ROOM ? NONE : at;
        }

        /** Takes STATEMENTS that lie in depth others, up to the end or to the end of a block. */
        private boolean takeStatements(int depth) {
            for (int round = 0; round < DRAFT_ROOM && at < row.size() && row.at(at) != '}'; round++) {
                if (!takeStatement(depth)) {
                    return false;
                }
            }
            return true;
        }

        private boolean takeStatement(int depth) {
            if (depth >= DEEPEST_STATEMENT) {
                return false;
            }
            int c = row.at(at);
            if (isVariable(c)) {
                return takeStore(c - 'a');
            }
            switch (c) {
                case '#': return takePrint();
                case '@': return takeWhile(depth);
                case '?': return takeIf(depth);
                default: return false;
            }
        }

        private boolean takeStore(int variable) {
            at++;
            if (!take('=') || !takeExpression(0) || !take(';')) {
                return false;
            }
            made.add(STORE, variable);
            return true;
        }

        private boolean takePrint() {
            at++;
            if (!takeExpression(0) || !take(';')) {
                return false;
            }
            made.add(PRINT, 0);
            return true;
        }

        private boolean takeWhile(int depth) {
            int begin = made.size();
            int exit = takeGuarded(depth);
            if (exit == NOTHING) {
                return false;
            }
            made.add(JUMP, begin);
            made.set(exit, UNLESS, made.size());
            return true;
        }

        /** Takes an IF or a CHOICE: which one it is shows behind the first part. */
        private boolean takeIf(int depth) {
            int exit = takeGuarded(depth);
            if (exit == NOTHING) {
                return false;
            }
            if (!take(':')) {
                made.set(exit, UNLESS, made.size());
                return true;
            }
            int leap = made.size();
            made.add(JUMP, 0);
            made.set(exit, UNLESS, made.size());
            if (!takeBlock(depth)) {
                return false;
            }
            made.set(leap, JUMP, made.size());
            return true;
        }

        /** Takes a sign, an EXPRESSION and a block; answers the PLACE of the UNLESS between. */
        private int takeGuarded(int depth) {
            at++;
            if (!takeExpression(0)) {
                return NOTHING;
            }
            int exit = made.size();
            made.add(UNLESS, 0);
            return takeBlock(depth) ? exit : NOTHING;
        }

        private boolean takeBlock(int depth) {
            return take('{') && takeStatements(depth + 1) && take('}');
        }

        /** Takes an EXPRESSION that lies in depth others. */
        private boolean takeExpression(int depth) {
            if (depth >= DEEPEST_EXPRESSION) {
                return false;
            }
            int c = row.at(at);
            if (isDigit(c)) {
                takeNumber();
                return true;
            }
            if (isVariable(c)) {
                at++;
                made.add(LOAD, c - 'a');
                return true;
            }
            return take('!') ? takeNot(depth) : take('(') && takePair(depth);
        }

        private boolean takeNot(int depth) {
            if (!takeExpression(depth + 1)) {
                return false;
            }
            made.add(NOT, 0);
            return true;
        }

        private boolean takePair(int depth) {
            if (!takeExpression(depth + 1)) {
                return false;
            }
            int op = opOfSign(row.at(at));
            if (op == NONE) {
                return false;
            }
            at++;
            if (!takeExpression(depth + 1) || !take(')')) {
                return false;
            }
            made.add(op, 0);
            return true;
        }

        private void takeNumber() {
            int number = row.at(at) - '0';
            at++;
            if (isDigit(row.at(at))) {
                number = number * 10 + row.at(at) - '0';
                at++;
            }
            made.add(PUSH, number);
        }

        private boolean take(char c) {
            if (row.at(at) != c) {
                return false;
            }
            at++;
            return true;
        }

        private static boolean isDigit(int c) {
            return c >= '0' && c <= '9';
        }

        private static boolean isVariable(int c) {
            return c >= 'a' && c < 'a' + VARIABLES;
        }

        private static int opOfSign(int c) {
            switch (c) {
                case '+': return ADD;
                case '-': return SUB;
                case '*': return MUL;
                case '<': return LESS;
                default: return NONE;
            }
        }
    }

    /** STACK, VARIABLES and OUTPUT, and how much of the limit is used. */
    private static final class Machine {
        private final int[] stack;
        private final int[] variables;
        private final int[] kept;
        private int height;
        private int printed;
        private int done;
        private int limit;

        Machine() {
            stack = new int[STACK_ROOM];
            variables = new int[VARIABLES];
            kept = new int[OUTPUT_ROOM];
            height = 0;
            printed = 0;
            done = 0;
            limit = 0;
        }

        void start(int x, int most) {
            for (int v = 0; v < VARIABLES; v++) {
                variables[v] = 0;
            }
            variables[0] = x;
            height = 0;
            printed = 0;
            done = 0;
            limit = most;
        }

        /** Counts one more as done, if the limit leaves it. */
        boolean spend() {
            if (done >= limit) {
                return false;
            }
            done++;
            return true;
        }

        /** Runs CODE from PLACE 0 on; answers if it came to its end. */
        boolean execute(Listing listing) {
            int place = 0;
            for (int round = 0; round <= GREATEST_LIMIT && listing.holds(place); round++) {
                if (!spend()) {
                    return false;
                }
                place = step(listing.op(place), listing.number(place), place);
            }
            return true;
        }

        /** Does the INSTRUCTION at a PLACE; answers the PLACE at which it goes on. */
        private int step(int op, int a, int place) {
            if (op == JUMP) {
                return a;
            }
            if (op == UNLESS) {
                return pop() == 0 ? a : place + 1;
            }
            perform(op, a);
            return place + 1;
        }

        /** Does an INSTRUCTION that is neither JUMP nor UNLESS. */
        void perform(int op, int a) {
            switch (op) {
                case PUSH:
                    push(a);
                    break;
                case LOAD:
                    push(variable(a));
                    break;
                case STORE:
                    keepVariable(a, pop());
                    break;
                case NOT:
                    push(pop() == 0 ? 1 : 0);
                    break;
                case PRINT:
                    print(pop());
                    break;
                default:
                    int y = pop();
                    push(combined(op, pop(), y));
            }
        }

        private static int combined(int op, int x, int y) {
            switch (op) {
                case ADD: return x + y;
                case SUB: return x - y;
                case MUL: return x * y;
                default: return x < y ? 1 : 0;
            }
        }

        private void push(int value) {
            if (height < STACK_ROOM) {
                stack[height] = value;
                height++;
            }
        }

        int pop() {
            if (height <= 0) {
                return 0;
            }
            height--;
            return stack[height];
        }

        private void print(int value) {
            if (printed < OUTPUT_ROOM) {
                kept[printed] = value;
            }
            printed++;
        }

        private void keepVariable(int v, int value) {
            if (v >= 0 && v < VARIABLES) {
                variables[v] = value;
            }
        }

        int variable(int v) {
            return v >= 0 && v < VARIABLES ? variables[v] : 0;
        }

        int printed() {
            return printed;
        }

        int done() {
            return done;
        }

        int kept(int k) {
            return k >= 0 && k < printed && k < OUTPUT_ROOM ? kept[k] : 0;
        }
    }

    /** Runs a TREE on a machine. Its methods answer if they came to their end. */
    private static final class Walker {
        private Walker() {
        }

        static boolean follow(Tree tree, Machine machine) {
            return walkFrom(tree, machine, tree.first(), 0);
        }

        private static boolean walkFrom(Tree tree, Machine machine, int first, int depth) {
            if (depth > TREE_ROOM) {
                return false;
            }
            int statement = first;
            for (int round = 0; round < TREE_ROOM && tree.holds(statement); round++) {
                boolean ended = tree.kind(statement) == WHILE
                        ? walkLoop(tree, machine, statement, depth)
                        : walkStatement(tree, machine, statement, depth);
                if (!ended) {
                    return false;
                }
                statement = tree.follower(statement);
            }
            return true;
        }

        private static boolean walkLoop(Tree tree, Machine machine, int statement, int depth) {
            for (int round = 0; round <= GREATEST_LIMIT; round++) {
                if (!machine.spend()) {
                    return false;
                }
                if (valueOf(tree, machine, statement) == 0) {
                    return true;
                }
                if (!walkFrom(tree, machine, tree.part(statement), depth + 1)) {
                    return false;
                }
            }
            return false;
        }

        private static boolean walkStatement(Tree tree, Machine machine, int statement, int depth) {
            if (!machine.spend()) {
                return false;
            }
            int kind = tree.kind(statement);
            if (kind == STORE || kind == PRINT) {
                perform(tree, machine, tree.from(statement), tree.mark(statement) + 1);
                return true;
            }
            boolean holds = valueOf(tree, machine, statement) != 0;
            int chosen = holds ? tree.part(statement) : tree.other(statement);
            return walkFrom(tree, machine, chosen, depth + 1);
        }

        private static int valueOf(Tree tree, Machine machine, int statement) {
            perform(tree, machine, tree.from(statement), tree.mark(statement));
            return machine.pop();
        }

        private static void perform(Tree tree, Machine machine, int from, int end) {
            Listing source = tree.source();
            for (int place = from; place < end; place++) {
                machine.perform(source.op(place), source.number(place));
            }
        }
    }
}
