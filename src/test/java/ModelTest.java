import java.util.Random;

/**
 * Promises 1 to 16: random runs of calls, the same each time, against the model. Each object is
 * used for 512 calls, those that only look among them.
 */
public final class ModelTest {
    private static final int RUNS = 16000;
    private static final int CALLS = 512;
    private static final int CALLS_OF_A_WHOLE_LOOK = 230;
    // How many lifts were good, wrong, knotted: a run that meets one kind alone tests little.
    private static final int[] LIFTED = new int[3];

    private final Random random;
    private final SourceDesk desk = new SourceDesk();
    private final Model model = new Model();
    private final String name;
    private int calls = 0;

    private ModelTest(int seed) {
        random = new Random(seed);
        name = "run " + seed + ": ";
    }

    public static void main(String[] args) {
        for (int seed = 0; seed < RUNS && Due.wrong() < 20; seed++) {
            new ModelTest(seed).play();
        }
        System.out.println("lifts: " + LIFTED[0] + " good, " + LIFTED[1] + " wrong, " + LIFTED[2] + " knotted");
        Due.is("good lifts are many", LIFTED[0] > RUNS / 2, true);
        Due.is("wrong lifts are many", LIFTED[1] > RUNS / 2, true);
        Due.is("knotted lifts are many", LIFTED[2] > RUNS / 4, true);
        Due.end();
    }

    private void play() {
        int before = random.nextInt(CALLS - CALLS_OF_A_WHOLE_LOOK);
        while (calls < before) {
            step();
        }
        lookAll();
        while (calls < CALLS) {
            step();
        }
    }

    private void step() {
        switch (random.nextInt(8)) {
            case 0: bringCode(); break;
            case 1: bringDraft(); break;
            case 2: aimJumps(); break;
            case 3: change(random.nextInt(32) - 1, random.nextInt(12), random.nextInt(32)); break;
            case 4: lift(); break;
            case 5: lift(); copy(); read(); break;
            case 6: runBoth(); break;
            default: anyCall();
        }
        lookAround();
    }

    /** Counts one more call, if the object may be used for it. */
    private boolean may() {
        if (calls >= CALLS) {
            return false;
        }
        calls++;
        return true;
    }

    private void due(String call, int got, int want) {
        Due.is(name + call + ", call " + calls, got, want);
    }

    private void put(int op, int a) {
        if (may()) {
            due("put(" + op + ", " + a + ")", desk.put(op, a), model.put(op, a));
        }
    }

    private void change(int p, int op, int a) {
        if (may()) {
            boolean got = desk.change(p, op, a);
            due("change(" + p + ", " + op + ", " + a + ")", got ? 1 : 0, model.change(p, op, a) ? 1 : 0);
        }
    }

    private void clear(int what) {
        if (may()) {
            due("clear(" + what + ")", desk.clear(what), model.clear(what));
        }
    }

    private void code(int p, int what) {
        if (may()) {
            due("code(" + p + ", " + what + ")", desk.code(p, what), model.code(p, what));
        }
    }

    private void verify() {
        if (may()) {
            due("verify()", desk.verify(), model.verify());
        }
    }

    private void lift() {
        if (may()) {
            int got = desk.lift();
            due("lift()", got, model.lift());
            LIFTED[got >= 0 ? 0 : got == SourceDesk.WRONG ? 1 : 2]++;
        }
        where();
    }

    private void text(int k) {
        if (may()) {
            due("text(" + k + ")", desk.text(k), model.text(k));
        }
    }

    private void where() {
        if (may()) {
            due("where()", desk.where(), model.where());
        }
    }

    private void letter(int c) {
        if (may()) {
            due("letter(" + c + ")", desk.letter(c), model.letter(c));
        }
    }

    private void copy() {
        if (may()) {
            due("copy()", desk.copy(), model.copy());
        }
    }

    private void read() {
        if (may()) {
            due("read()", desk.read(), model.read());
        }
        where();
    }

    private void run(int x, int limit) {
        if (may()) {
            due("run(" + x + ", " + limit + ")", desk.run(x, limit), model.run(x, limit));
        }
    }

    private void walk(int x, int limit) {
        if (may()) {
            due("walk(" + x + ", " + limit + ")", desk.walk(x, limit), model.walk(x, limit));
        }
    }

    private void output(int k) {
        if (may()) {
            due("output(" + k + ")", desk.output(k), model.output(k));
        }
    }

    private void count(int what) {
        if (may()) {
            due("count(" + what + ")", desk.count(what), model.count(what));
        }
    }

    private void runBoth() {
        int x = random.nextInt(4) == 0 ? random.nextInt() : random.nextInt(9) - 2;
        int limit = random.nextInt(3) == 0 ? random.nextInt(30) : random.nextInt(404) - 1;
        run(x, limit);
        lookAtRun();
        walk(x, limit);
        lookAtRun();
    }

    private void lookAtRun() {
        count(3);
        count(4);
        count(10 + random.nextInt(6));
        output(random.nextInt(4));
        output(random.nextInt(22));
    }

    private void anyCall() {
        switch (random.nextInt(3)) {
            case 0: put(random.nextInt(13) - 1, random.nextInt(102) - 1); break;
            case 1: letter(random.nextInt(100) + 30); break;
            default: clear(random.nextInt(4) - 1);
        }
    }

    private void lookAround() {
        for (int i = 0; i < 5; i++) {
            switch (random.nextInt(6)) {
                case 0: count(random.nextInt(18) - 1); break;
                case 1: code(random.nextInt(33) - 1, random.nextInt(5) - 1); break;
                case 2: text(random.nextInt(model.count(2) + 3) - 2); break;
                case 3: output(random.nextInt(23) - 1); break;
                case 4: verify(); break;
                default: where();
            }
        }
    }

    private void lookAll() {
        for (int what = -1; what <= 16; what++) {
            count(what);
        }
        for (int p = -1; p <= 31; p++) {
            for (int what = 0; what <= 2; what++) {
                code(p, what);
            }
        }
        for (int k = -2; k <= model.count(2); k++) {
            text(k);
        }
        for (int k = -1; k <= 21; k++) {
            output(k);
        }
        verify();
        where();
    }

    /** Code of whole statements, with jumps to any place. */
    private void bringCode() {
        clear(0);
        int statements = random.nextInt(9);
        for (int i = 0; i < statements; i++) {
            bringExpression(random.nextInt(3));
            int kind = random.nextInt(5);
            if (kind == 0) {
                put(2, random.nextInt(6));
            } else if (kind == 1) {
                put(10, 0);
            } else {
                put(9, random.nextInt(31));
                if (kind == 2) {
                    put(8, random.nextInt(31));
                }
            }
        }
        if (random.nextInt(3) != 0) {
            aimJumps();
        }
    }

    private void bringExpression(int size) {
        if (size == 0) {
            put(random.nextInt(2), random.nextInt(6));
            return;
        }
        bringExpression(size - 1);
        if (random.nextInt(3) == 0) {
            put(7, 0);
        } else {
            bringExpression(0);
            put(3 + random.nextInt(4), 0);
        }
    }

    /** Jumps go to places of height 0, mostly forward ones: such code is often good or knotted. */
    private void aimJumps() {
        for (int p = 0; p < model.count(0); p++) {
            int op = model.code(p, 0);
            if ((op == 8 || op == 9) && random.nextInt(4) != 0) {
                change(p, op, landing(random.nextInt(4) == 0 ? 0 : p + 1));
            }
        }
    }

    private int landing(int least) {
        int span = model.count(0) + 1 - least;
        for (int attempt = 0; attempt < 40 && span > 0; attempt++) {
            int place = least + random.nextInt(random.nextBoolean() ? span : Math.min(span, 8));
            if (model.code(place, 2) == 0) {
                return place;
            }
        }
        return model.count(0);
    }

    /** A draft that is mostly good; at times one character is another one, or is left out. */
    private void bringDraft() {
        StringBuilder text = new StringBuilder();
        int room = 10 + random.nextInt(60);
        while (text.length() < room && random.nextInt(6) != 0) {
            addStatement(text, random.nextInt(8));
        }
        if (text.length() > 0 && random.nextInt(3) == 0) {
            int k = random.nextInt(text.length());
            String some = "#@?{}:;=()!+-*<abcdefg0159";
            if (random.nextBoolean()) {
                text.setCharAt(k, some.charAt(random.nextInt(some.length())));
            } else {
                text.deleteCharAt(k);
            }
        }
        clear(1);
        for (int i = 0; i < text.length(); i++) {
            letter(text.charAt(i));
        }
        read();
    }

    private void addStatement(StringBuilder text, int depth) {
        int kind = depth <= 0 ? random.nextInt(2) : random.nextInt(7);
        if (kind == 0) {
            text.append((char) ('a' + random.nextInt(6))).append('=');
        } else {
            text.append(kind == 1 ? '#' : kind <= 3 ? '@' : '?');
        }
        addExpression(text, random.nextInt(10) == 0 ? 9 : random.nextInt(4));
        if (kind <= 1) {
            text.append(';');
            return;
        }
        addBlock(text, depth);
        if (kind >= 5) {
            text.append(':');
            addBlock(text, depth);
        }
    }

    private void addBlock(StringBuilder text, int depth) {
        text.append('{');
        for (int i = random.nextInt(3); i > 0; i--) {
            addStatement(text, depth - 1 - random.nextInt(2));
        }
        text.append('}');
    }

    private void addExpression(StringBuilder text, int depth) {
        int kind = depth <= 0 ? random.nextInt(2) : random.nextInt(6);
        if (kind == 0) {
            text.append(random.nextInt(random.nextBoolean() ? 3 : 100));
        } else if (kind == 1) {
            text.append((char) ('a' + random.nextInt(6)));
        } else if (kind <= 3) {
            text.append('!');
            addExpression(text, depth - 1);
        } else {
            text.append('(');
            addExpression(text, depth - 1);
            text.append("+-*<".charAt(random.nextInt(4)));
            addExpression(text, random.nextInt(depth));
            text.append(')');
        }
    }
}
