import java.util.ArrayDeque;
import java.util.ArrayList;
import java.util.Deque;
import java.util.List;

/**
 * The document once more, built in another way than the program: trees are objects that hold
 * their expressions as texts, and a draft becomes a tree before it becomes code.
 */
final class Model {
    private static final class Trouble extends Exception {
        private static final long serialVersionUID = 1L;
        private final int at;

        Trouble(int at) {
            this.at = at;
        }
    }

    /** A statement; its kind is one of = # @ ? and : for a choice. */
    private static final class Node {
        private final char kind;
        private final String expression;
        private char letter;
        private List<Node> part = List.of();
        private List<Node> other = List.of();

        Node(char kind, String expression) {
            this.kind = kind;
            this.expression = expression;
        }
    }

    private final List<int[]> code = new ArrayList<>();
    private final StringBuilder draft = new StringBuilder();
    private String text = "";
    private List<Node> tree = null;
    private List<Integer> output = new ArrayList<>();
    private int[] variables = new int[6];
    private int done = 0;
    private int limit = 0;
    private int where = -2;
    private int at = 0;

    private static boolean bare(int op) {
        return op >= 3 && op <= 7 || op == 10;
    }

    private static boolean fits(int op, int a) {
        if (op < 0 || op > 10) {
            return false;
        }
        int[] most = {99, 5, 5, 0, 0, 0, 0, 0, 30, 30, 0};
        return bare(op) || a >= 0 && a <= most[op];
    }

    int put(int op, int a) {
        if (!fits(op, a)) {
            return -1;
        }
        if (code.size() == 30) {
            return -3;
        }
        code.add(new int[] {op, bare(op) ? 0 : a});
        return code.size();
    }

    boolean change(int p, int op, int a) {
        if (p < 0 || p >= code.size() || !fits(op, a)) {
            return false;
        }
        code.set(p, new int[] {op, bare(op) ? 0 : a});
        return true;
    }

    int clear(int what) {
        int had = what == 0 ? code.size() : what == 1 ? draft.length() : -1;
        if (what == 0) {
            code.clear();
        }
        if (what == 1) {
            draft.setLength(0);
        }
        return had;
    }

    int code(int p, int what) {
        if (what < 0 || what > 2) {
            return -1;
        }
        if (p < 0 || p > code.size() || p == code.size() && what != 2) {
            return -2;
        }
        return what == 2 ? height(p) : code.get(p)[what];
    }

    private int height(int p) {
        int[] rise = {1, 1, -1, -1, -1, -1, -1, 0, 0, -1, -1};
        int sum = 0;
        for (int i = 0; i < p; i++) {
            sum += rise[code.get(i)[0]];
        }
        return sum;
    }

    int verify() {
        for (int p = 0; p <= code.size(); p++) {
            if (wrong(p)) {
                return p;
            }
        }
        return -2;
    }

    private boolean wrong(int p) {
        int h = height(p);
        if (p == code.size()) {
            return h != 0;
        }
        int[] least = {-99, -99, 1, 2, 2, 2, 2, 1, 0, 1, 1};
        int[] most = {7, 7, 1, 99, 99, 99, 99, 99, 0, 1, 1};
        int op = code.get(p)[0];
        int a = code.get(p)[1];
        boolean goes = op == 8 || op == 9;
        return h < least[op] || h > most[op] || goes && (a > code.size() || height(a) != 0);
    }

    int lift() {
        tree = null;
        text = "";
        where = verify();
        if (where != -2) {
            return -4;
        }
        try {
            tree = treeOf(0, code.size());
        } catch (Trouble knot) {
            where = knot.at;
            return -5;
        }
        text = textOf(tree);
        return text.length();
    }

    private List<Node> treeOf(int p, int q) throws Trouble {
        List<Node> made = new ArrayList<>();
        if (p == q) {
            return made;
        }
        Deque<String> parts = new ArrayDeque<>();
        int u = p;
        for (; code.get(u)[0] < 8 && code.get(u)[0] != 2; u++) {
            gather(parts, code.get(u)[0], code.get(u)[1]);
        }
        int op = code.get(u)[0];
        int t = code.get(u)[1];
        if (op == 8 || op == 9 && (t <= u || t > q)) {
            throw new Trouble(u);
        }
        if (op != 9) {
            Node node = new Node(op == 2 ? '=' : '#', parts.pop());
            node.letter = (char) ('a' + t);
            made.add(node);
            made.addAll(treeOf(u + 1, q));
            return made;
        }
        int jump = t - 1 > u && code.get(t - 1)[0] == 8 ? code.get(t - 1)[1] : -1;
        int behind = t;
        Node node;
        if (jump == p) {
            node = new Node('@', parts.pop());
            node.part = treeOf(u + 1, t - 1);
        } else if (jump >= t && jump <= q) {
            node = new Node(':', parts.pop());
            node.part = treeOf(u + 1, t - 1);
            node.other = treeOf(t, jump);
            behind = jump;
        } else {
            node = new Node('?', parts.pop());
            node.part = treeOf(u + 1, t);
        }
        made.add(node);
        made.addAll(treeOf(behind, q));
        return made;
    }

    private static void gather(Deque<String> parts, int op, int a) {
        if (op == 0) {
            parts.push("" + a);
        } else if (op == 1) {
            parts.push("" + (char) ('a' + a));
        } else if (op == 7) {
            parts.push("!" + parts.pop());
        } else {
            String y = parts.pop();
            parts.push("(" + parts.pop() + "+-*<".charAt(op - 3) + y + ")");
        }
    }

    private static String textOf(List<Node> nodes) {
        String told = "";
        for (Node node : nodes) {
            if (node.kind == '=') {
                told += node.letter + "=" + node.expression + ";";
            } else if (node.kind == '#') {
                told += "#" + node.expression + ";";
            } else {
                told += (node.kind == '@' ? "@" : "?") + node.expression + "{" + textOf(node.part) + "}";
                told += node.kind == ':' ? ":{" + textOf(node.other) + "}" : "";
            }
        }
        return told;
    }

    int text(int k) {
        if (k == -1) {
            return text.length();
        }
        return k >= 0 && k < text.length() ? text.charAt(k) : -2;
    }

    int where() {
        return where;
    }

    int letter(int c) {
        if (c < 33 || c > 126) {
            return -1;
        }
        if (draft.length() == 120) {
            return -3;
        }
        draft.append((char) c);
        return draft.length();
    }

    int copy() {
        if (text.length() > 120) {
            return -3;
        }
        draft.setLength(0);
        draft.append(text);
        return draft.length();
    }

    int read() {
        List<int[]> made = new ArrayList<>();
        try {
            at = 0;
            List<Node> nodes = parse(0);
            if (at < draft.length()) {
                throw new Trouble(at);
            }
            generate(nodes, made);
            if (made.size() > 30) {
                throw new Trouble(draft.length());
            }
        } catch (Trouble fault) {
            where = fault.at;
            return -6;
        }
        where = -2;
        code.clear();
        code.addAll(made);
        return code.size();
    }

    private char next() {
        return at < draft.length() ? draft.charAt(at) : ' ';
    }

    private void must(String oneOf) throws Trouble {
        if (oneOf.indexOf(next()) < 0) {
            throw new Trouble(at);
        }
        at++;
    }

    private List<Node> parse(int in) throws Trouble {
        List<Node> nodes = new ArrayList<>();
        while (at < draft.length() && next() != '}') {
            if (in == 6) {
                throw new Trouble(at);
            }
            char first = next();
            must("#@?abcdef");
            if (first >= 'a') {
                must("=");
            }
            int begin = at;
            parseExpression(0);
            String expression = draft.substring(begin, at);
            nodes.add(parseRest(first, expression, in));
        }
        return nodes;
    }

    private Node parseRest(char first, String expression, int in) throws Trouble {
        if (first == '#' || first >= 'a') {
            must(";");
            Node node = new Node(first == '#' ? '#' : '=', expression);
            node.letter = first;
            return node;
        }
        List<Node> part = parseBlock(in);
        boolean choice = first == '?' && next() == ':';
        Node node = new Node(choice ? ':' : first, expression);
        node.part = part;
        if (choice) {
            at++;
            node.other = parseBlock(in);
        }
        return node;
    }

    private List<Node> parseBlock(int in) throws Trouble {
        must("{");
        List<Node> nodes = parse(in + 1);
        must("}");
        return nodes;
    }

    private void parseExpression(int in) throws Trouble {
        if (in == 8) {
            throw new Trouble(at);
        }
        char first = next();
        must("0123456789abcdef!(");
        if (first == '!') {
            parseExpression(in + 1);
        } else if (first == '(') {
            parseExpression(in + 1);
            must("+-*<");
            parseExpression(in + 1);
            must(")");
        } else if (first <= '9' && next() >= '0' && next() <= '9') {
            at++;
        }
    }

    private static void generate(List<Node> nodes, List<int[]> made) {
        for (Node node : nodes) {
            int begin = made.size();
            generateExpression(node.expression, new int[] {0}, made);
            if (node.kind == '=') {
                made.add(new int[] {2, node.letter - 'a'});
            } else if (node.kind == '#') {
                made.add(new int[] {10, 0});
            } else {
                int[] unless = {9, 0};
                made.add(unless);
                generate(node.part, made);
                int[] jump = {8, begin};
                if (node.kind != '?') {
                    made.add(jump);
                }
                unless[1] = made.size();
                generate(node.other, made);
                if (node.kind == ':') {
                    jump[1] = made.size();
                }
            }
        }
    }

    private static void generateExpression(String e, int[] i, List<int[]> made) {
        char c = e.charAt(i[0]++);
        if (c == '!') {
            generateExpression(e, i, made);
            made.add(new int[] {7, 0});
        } else if (c == '(') {
            generateExpression(e, i, made);
            int op = 3 + "+-*<".indexOf(e.charAt(i[0]++));
            generateExpression(e, i, made);
            i[0]++;
            made.add(new int[] {op, 0});
        } else if (c >= 'a') {
            made.add(new int[] {1, c - 'a'});
        } else {
            made.add(new int[] {0, number(e, i)});
        }
    }

    /** The number whose first digit has just been taken. */
    private static int number(String e, int[] i) {
        int begin = i[0] - 1;
        while (i[0] < e.length() && Character.isDigit(e.charAt(i[0]))) {
            i[0]++;
        }
        return Integer.parseInt(e.substring(begin, i[0]));
    }

    private void start(int x, int most) {
        variables = new int[] {x, 0, 0, 0, 0, 0};
        output = new ArrayList<>();
        done = 0;
        limit = most;
    }

    private void spend() throws Trouble {
        if (done == limit) {
            throw new Trouble(done);
        }
        done++;
    }

    int run(int x, int most) {
        if (most < 0 || most > 400) {
            return -1;
        }
        start(x, most);
        Deque<Integer> stack = new ArrayDeque<>();
        try {
            for (int p = 0; p < code.size();) {
                spend();
                p = step(stack, code.get(p)[0], code.get(p)[1], p + 1);
            }
        } catch (Trouble stop) {
            return -7;
        }
        return output.size();
    }

    private int step(Deque<Integer> stack, int op, int a, int next) {
        int y = op >= 2 && op != 8 && !stack.isEmpty() ? stack.pop() : 0;
        int x = op >= 3 && op <= 6 && !stack.isEmpty() ? stack.pop() : 0;
        int[] comes = {a, op == 1 ? variables[a] : 0, 0, x + y, x - y, x * y, x < y ? 1 : 0, y == 0 ? 1 : 0};
        if (op <= 7 && op != 2 && stack.size() < 16) {
            stack.push(comes[op]);
        }
        if (op == 2) {
            variables[a] = y;
        }
        if (op == 10) {
            output.add(y);
        }
        return op == 8 || op == 9 && y == 0 ? a : next;
    }

    int walk(int x, int most) {
        if (most < 0 || most > 400) {
            return -1;
        }
        if (tree == null) {
            return -2;
        }
        start(x, most);
        try {
            walkAll(tree);
        } catch (Trouble stop) {
            return -7;
        }
        return output.size();
    }

    private void walkAll(List<Node> nodes) throws Trouble {
        for (Node node : nodes) {
            spend();
            int value = value(node.expression, new int[] {0});
            if (node.kind == '=') {
                variables[node.letter - 'a'] = value;
            } else if (node.kind == '#') {
                output.add(value);
            } else if (node.kind != '@') {
                walkAll(value != 0 ? node.part : node.other);
            } else {
                while (value != 0) {
                    walkAll(node.part);
                    spend();
                    value = value(node.expression, new int[] {0});
                }
            }
        }
    }

    private int value(String e, int[] i) {
        char c = e.charAt(i[0]++);
        if (c == '!') {
            return value(e, i) == 0 ? 1 : 0;
        }
        if (c >= 'a') {
            return variables[c - 'a'];
        }
        if (c != '(') {
            return number(e, i);
        }
        int x = value(e, i);
        char sign = e.charAt(i[0]++);
        int y = value(e, i);
        i[0]++;
        return sign == '+' ? x + y : sign == '-' ? x - y : sign == '*' ? x * y : x < y ? 1 : 0;
    }

    int output(int k) {
        return k >= 0 && k < 20 && k < output.size() ? output.get(k) : 0;
    }

    int count(int what) {
        List<Node> all = tree == null ? List.of() : tree;
        if (what >= 10 && what <= 15) {
            return variables[what - 10];
        }
        int[] told = {code.size(), draft.length(), text.length(), output.size(), done,
            many(all, "=#@?:"), many(all, "@"), many(all, "?"), many(all, ":"), deep(all)};
        return what >= 0 && what < 10 ? told[what] : -1;
    }

    private static int many(List<Node> nodes, String kinds) {
        int sum = 0;
        for (Node node : nodes) {
            sum += (kinds.indexOf(node.kind) >= 0 ? 1 : 0) + many(node.part, kinds) + many(node.other, kinds);
        }
        return sum;
    }

    private static int deep(List<Node> nodes) {
        int most = 0;
        for (Node node : nodes) {
            most = Math.max(most, 1 + Math.max(deep(node.part), deep(node.other)));
        }
        return most;
    }
}
