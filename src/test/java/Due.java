import java.util.ArrayList;
import java.util.List;

/** What the tests share: they tell answers that are not as due, and bring code and text in. */
final class Due {
    private static final String[] OPS = {
        "PUSH", "LOAD", "STORE", "ADD", "SUB", "MUL", "LESS", "NOT", "JUMP", "UNLESS", "PRINT"};
    private static final int MOST_TOLD = 50;

    private static int looked = 0;
    private static int wrong = 0;

    private Due() {
    }

    static void is(String call, long got, long want) {
        tell(got == want, call, String.valueOf(got), String.valueOf(want));
    }

    static void is(String call, boolean got, boolean want) {
        tell(got == want, call, String.valueOf(got), String.valueOf(want));
    }

    static void is(String call, String got, String want) {
        tell(got.equals(want), call, got, want);
    }

    private static void tell(boolean right, String call, String got, String want) {
        looked++;
        if (right) {
            return;
        }
        wrong++;
        if (wrong <= MOST_TOLD) {
            System.out.println(call + " answered " + got + ", due is " + want);
        }
    }

    static int wrong() {
        return wrong;
    }

    static void end() {
        System.out.println(looked + " answers looked at, " + wrong + " not as due");
        if (wrong != 0) {
            System.exit(1);
        }
    }

    /** A new desk with this code, told as "LOAD 0, UNLESS 4, ..". */
    static SourceDesk deskWith(String code) {
        SourceDesk desk = new SourceDesk();
        load(desk, code);
        return desk;
    }

    static void load(SourceDesk desk, String code) {
        desk.clear(0);
        if (code.isEmpty()) {
            return;
        }
        for (String instruction : code.split(", *")) {
            String[] words = instruction.trim().split(" ");
            int a = words.length > 1 ? Integer.parseInt(words[1]) : 0;
            if (desk.put(opOf(words[0]), a) < 0) {
                throw new IllegalArgumentException(instruction);
            }
        }
    }

    static int opOf(String name) {
        for (int op = 0; op < OPS.length; op++) {
            if (OPS[op].equals(name)) {
                return op;
            }
        }
        throw new IllegalArgumentException(name);
    }

    static String codeOf(SourceDesk desk) {
        List<String> told = new ArrayList<>();
        for (int p = 0; p < desk.count(0); p++) {
            int op = desk.code(p, 0);
            boolean bare = op >= 3 && op <= 7 || op == 10;
            told.add(bare ? OPS[op] : OPS[op] + " " + desk.code(p, 1));
        }
        return String.join(", ", told);
    }

    /** A new desk with this draft. */
    static SourceDesk deskWithDraft(String draft) {
        SourceDesk desk = new SourceDesk();
        write(desk, draft);
        return desk;
    }

    static void write(SourceDesk desk, String draft) {
        desk.clear(1);
        for (int i = 0; i < draft.length(); i++) {
            desk.letter(draft.charAt(i));
        }
    }

    static String textOf(SourceDesk desk) {
        StringBuilder told = new StringBuilder();
        for (int k = 0; k < desk.text(-1); k++) {
            told.append((char) desk.text(k));
        }
        return told.toString();
    }

    /** The first values of the output, as many as are kept. */
    static String outputOf(SourceDesk desk) {
        List<String> told = new ArrayList<>();
        for (int k = 0; k < Math.min(20, desk.count(3)); k++) {
            told.add(String.valueOf(desk.output(k)));
        }
        return String.join(" ", told);
    }
}
