import java.util.ArrayList;
import java.util.List;

/** What the tests share: they tell answers that are not as due, and bring code and text in. */
final class Due {
    private static final String[] OPS = {
        "PUSH", "LOAD", "STORE", "ADD", "SUB", "MUL", "LESS", "NOT", "JUMP", "UNLESS", "PRINT"};
    private static final int MOST_TOLD = 50;
    private static final String KEPT = "PUSH 77, PRINT";

    private static int looked = 0;
    private static int wrong = 0;
    private static int sentences = 0;
    private static String sentence = "";

    private Due() {
    }

    /** Tells the words of the document that the answers from here on are about. */
    static void sentence(String words) {
        sentences++;
        sentence = "'" + words + "': ";
    }

    static void is(String call, long got, long want) {
        tell(got == want, call, String.valueOf(got), String.valueOf(want));
    }

    static void is(String call, boolean got, boolean want) {
        tell(got == want, call, String.valueOf(got), String.valueOf(want));
    }

    static void is(String call, String got, String want) {
        tell(got.equals(want), call, got, want);
    }

    private static void tell(boolean right, String call, String got, String want) {
        looked++;
        if (right) {
            return;
        }
        wrong++;
        if (wrong <= MOST_TOLD) {
            System.out.println(sentence + call + " answered " + got + ", due is " + want);
        }
    }

    static int wrong() {
        return wrong;
    }

    static void end() {
        String about = sentences == 0 ? "" : " about " + sentences + " sentences";
        System.out.println(looked + " answers" + about + " looked at, " + wrong + " not as due");
        if (wrong != 0) {
            System.exit(1);
        }
    }

    /** A new desk with this code, told as "LOAD 0, UNLESS 4, ..". */
    static SourceDesk deskWith(String code) {
        SourceDesk desk = new SourceDesk();
        load(desk, code);
        return desk;
    }

    static void load(SourceDesk desk, String code) {
        desk.clear(0);
        if (code.isEmpty()) {
            return;
        }
        for (String instruction : code.split(", *")) {
            String[] words = instruction.trim().split(" ");
            int a = words.length > 1 ? Integer.parseInt(words[1]) : 0;
            if (desk.put(opOf(words[0]), a) < 0) {
                throw new IllegalArgumentException(instruction);
            }
        }
    }

    static int opOf(String name) {
        for (int op = 0; op < OPS.length; op++) {
            if (OPS[op].equals(name)) {
                return op;
            }
        }
        throw new IllegalArgumentException(name);
    }

    static String codeOf(SourceDesk desk) {
        List<String> told = new ArrayList<>();
        for (int p = 0; p < desk.count(0); p++) {
            int op = desk.code(p, 0);
            boolean bare = op >= 3 && op <= 7 || op == 10;
            told.add(bare ? OPS[op] : OPS[op] + " " + desk.code(p, 1));
        }
        return String.join(", ", told);
    }

    /** A new desk with this draft. */
    static SourceDesk deskWithDraft(String draft) {
        SourceDesk desk = new SourceDesk();
        write(desk, draft);
        return desk;
    }

    static void write(SourceDesk desk, String draft) {
        desk.clear(1);
        for (int i = 0; i < draft.length(); i++) {
            desk.letter(draft.charAt(i));
        }
    }

    static String textOf(SourceDesk desk) {
        StringBuilder told = new StringBuilder();
        for (int k = 0; k < desk.text(-1); k++) {
            told.append((char) desk.text(k));
        }
        return told.toString();
    }

    /** The first values of the output, as many as are kept. */
    static String outputOf(SourceDesk desk) {
        List<String> told = new ArrayList<>();
        for (int k = 0; k < Math.min(20, desk.count(3)); k++) {
            told.add(String.valueOf(desk.output(k)));
        }
        return String.join(" ", told);
    }

    /** A new desk with the code and the tree of this draft. */
    static SourceDesk lifted(String draft) {
        SourceDesk desk = deskWithDraft(draft);
        if (desk.read() < 0 || desk.lift() < 0) {
            throw new IllegalArgumentException(draft);
        }
        return desk;
    }

    /** Looks if the code lifts to the text. */
    static void lifts(String code, String text) {
        SourceDesk desk = deskWith(code);
        is("lift() of " + code, desk.lift(), text.length());
        is("text of " + code, textOf(desk), text);
        is("where() of " + code, desk.where(), SourceDesk.NONE);
        is("count(2) of " + code, desk.count(2), text.length());
        is("code stays", codeOf(desk), code);
    }

    /** Looks if the draft is read as the code. */
    static void reads(String draft, String code) {
        SourceDesk desk = deskWith(KEPT);
        write(desk, draft);
        is("read() of " + draft, desk.read(), code.isEmpty() ? 0 : code.split(",").length);
        is("code of " + draft, codeOf(desk), code);
        is("where() of " + draft, desk.where(), SourceDesk.NONE);
        is("the draft stays", desk.count(1), draft.length());
        is("its code is not wrong", desk.verify(), SourceDesk.NONE);
    }

    /** Looks if the draft is at fault at this character. */
    static void faults(String draft, int at) {
        SourceDesk desk = deskWith(KEPT);
        write(desk, draft);
        is("read() of " + draft, desk.read(), SourceDesk.FAULT);
        is("where() of " + draft, desk.where(), at);
        is("the code stays", codeOf(desk), KEPT);
        is("the draft stays", desk.count(1), draft.length());
        is("again", desk.read(), SourceDesk.FAULT);
    }

    /** Looks if a run of the code prints the values, told as "1 2 3". */
    static void prints(String code, int x, String values) {
        SourceDesk desk = deskWith(code);
        is("run(" + x + ", 400) of " + code, desk.run(x, 400), values.isEmpty() ? 0 : values.split(" ").length);
        is("output of " + code, outputOf(desk), values);
    }
}
