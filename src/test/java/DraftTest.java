/** Promises 9 to 12: where (of read), letter, copy, read. */
public final class DraftTest {
    private static final String KEPT = "PUSH 77, PRINT";

    private DraftTest() {
    }

    public static void main(String[] args) {
        letterTakes();
        letterRefuses();
        letterIsFull();
        copyBrings();
        readsExpressions();
        readsStatements();
        readsBranches();
        faultsOfStatements();
        faultsOfExpressions();
        faultsOfBlocks();
        strangeCharactersFault();
        depths();
        tooMuchCode();
        readLeavesTheRest();
        Due.end();
    }

    private static void letterTakes() {
        SourceDesk desk = new SourceDesk();
        for (int c = 33; c <= 126; c++) {
            Due.is("letter(" + c + ")", desk.letter(c), c - 32);
        }
        Due.is("count(1)", desk.count(1), 94);
        Due.is("the text stays empty", desk.count(2), 0);
    }

    private static void letterRefuses() {
        SourceDesk desk = new SourceDesk();
        for (int c : new int[] {32, 127, 0, -1, 128, 255, 256 + 'a', 65536 + 'a', Integer.MAX_VALUE, Integer.MIN_VALUE}) {
            Due.is("letter(" + c + ")", desk.letter(c), SourceDesk.REFUSED);
            Due.is("nothing came", desk.count(1), 0);
        }
    }

    private static void letterIsFull() {
        SourceDesk desk = new SourceDesk();
        for (int i = 1; i <= 120; i++) {
            Due.is("letter number " + i, desk.letter('a'), i);
        }
        Due.is("letter number 121", desk.letter('a'), SourceDesk.FULL);
        Due.is("a wrong number is told before FULL", desk.letter(32), SourceDesk.REFUSED);
        Due.is("there are 120", desk.count(1), 120);
        Due.is("clear(1)", desk.clear(1), 120);
        Due.is("letter goes again", desk.letter('#'), 1);
        Due.is("read of #", desk.read(), SourceDesk.FAULT);
        Due.is("where", desk.where(), 1);
    }

    private static void copyBrings() {
        SourceDesk desk = Due.deskWith("PUSH 7, STORE 1, LOAD 1, PRINT");
        Due.is("copy of no text", desk.copy(), 0);
        desk.lift();
        Due.write(desk, "#1;#2;#3;#4;");
        Due.is("copy()", desk.copy(), 7);
        Due.is("the draft has as many", desk.count(1), 7);
        Due.is("the text stays", Due.textOf(desk), "b=7;#b;");
        desk.clear(0);
        Due.is("read()", desk.read(), 4);
        Due.is("the code is back", Due.codeOf(desk), "PUSH 7, STORE 1, LOAD 1, PRINT");
        desk.letter('#');
        desk.letter('5');
        desk.letter(';');
        Due.is("the draft goes on behind it", desk.read(), 6);
        Due.is("the text is another row", Due.textOf(desk), "b=7;#b;");
        Due.load(desk, "JUMP 0");
        desk.lift();
        Due.is("copy of the empty text", desk.copy(), 0);
        Due.is("the draft is empty", desk.count(1), 0);
        Due.is("read of it", desk.read(), 0);
    }

    private static void reads(String draft, String code) {
        SourceDesk desk = Due.deskWith(KEPT);
        Due.write(desk, draft);
        int length = code.isEmpty() ? 0 : code.split(",").length;
        Due.is("read() of " + draft, desk.read(), length);
        Due.is("code of " + draft, Due.codeOf(desk), code);
        Due.is("where() of " + draft, desk.where(), SourceDesk.NONE);
        Due.is("the draft stays", desk.count(1), draft.length());
        Due.is("its code is not wrong", desk.verify(), SourceDesk.NONE);
    }

    private static void faults(String draft, int at) {
        SourceDesk desk = Due.deskWith(KEPT);
        Due.write(desk, draft);
        Due.is("read() of " + draft, desk.read(), SourceDesk.FAULT);
        Due.is("where() of " + draft, desk.where(), at);
        Due.is("the code stays", Due.codeOf(desk), KEPT);
        Due.is("the draft stays", desk.count(1), draft.length());
        Due.is("again", desk.read(), SourceDesk.FAULT);
    }

    private static void readsExpressions() {
        for (int number = 0; number <= 99; number++) {
            reads("#" + number + ";", "PUSH " + number + ", PRINT");
        }
        for (int number = 0; number <= 9; number++) {
            reads("#0" + number + ";", "PUSH " + number + ", PRINT");
        }
        for (int v = 0; v < 6; v++) {
            reads("#" + (char) ('a' + v) + ";", "LOAD " + v + ", PRINT");
        }
        reads("#(1+a);", "PUSH 1, LOAD 0, ADD, PRINT");
        reads("#(1-a);", "PUSH 1, LOAD 0, SUB, PRINT");
        reads("#(1*a);", "PUSH 1, LOAD 0, MUL, PRINT");
        reads("#(1<a);", "PUSH 1, LOAD 0, LESS, PRINT");
        reads("#!!1;", "PUSH 1, NOT, NOT, PRINT");
        reads("#!(!b*!(c<d));", "LOAD 1, NOT, LOAD 2, LOAD 3, LESS, NOT, MUL, NOT, PRINT");
        reads("#((10+2)-03);", "PUSH 10, PUSH 2, ADD, PUSH 3, SUB, PRINT");
    }

    private static void readsStatements() {
        reads("", "");
        for (int v = 0; v < 6; v++) {
            reads((char) ('a' + v) + "=5;", "PUSH 5, STORE " + v);
        }
        reads("b=5;#b;a=6;", "PUSH 5, STORE 1, LOAD 1, PRINT, PUSH 6, STORE 0");
    }

    private static void readsBranches() {
        reads("?a{}", "LOAD 0, UNLESS 2");
        reads("?a{#b;}#c;", "LOAD 0, UNLESS 4, LOAD 1, PRINT, LOAD 2, PRINT");
        reads("@a{}", "LOAD 0, UNLESS 3, JUMP 0");
        reads("#c;@a{#b;}#d;", "LOAD 2, PRINT, LOAD 0, UNLESS 7, LOAD 1, PRINT, JUMP 2, LOAD 3, PRINT");
        reads("@(a<1){}", "LOAD 0, PUSH 1, LESS, UNLESS 5, JUMP 0");
        reads("?a{}:{}", "LOAD 0, UNLESS 3, JUMP 3");
        reads("?a{#b;}:{#c;}#d;",
            "LOAD 0, UNLESS 5, LOAD 1, PRINT, JUMP 7, LOAD 2, PRINT, LOAD 3, PRINT");
        reads("?a{?b{}:{#c;}}:{@d{}}", "LOAD 0, UNLESS 8, LOAD 1, UNLESS 5, JUMP 7, LOAD 2, PRINT, "
            + "JUMP 11, LOAD 3, UNLESS 11, JUMP 8");
        reads("?a{}?b{}", "LOAD 0, UNLESS 2, LOAD 1, UNLESS 4");
    }

    private static void faultsOfStatements() {
        faults("}", 0);
        faults("{", 0);
        faults(";", 0);
        faults(":", 0);
        faults("1", 0);
        faults("(", 0);
        faults("!", 0);
        faults("g=1;", 0);
        faults("A=1;", 0);
        faults("`=1;", 0);
        faults("a", 1);
        faults("a=", 2);
        faults("a=1", 3);
        faults("a==1;", 2);
        faults("a1;", 1);
        faults("a=1;;", 4);
        faults("a=1}", 3);
        faults("#", 1);
        faults("#;", 1);
        faults("#a", 2);
        faults("#a=", 2);
        faults("#1;#2;x", 6);
        faults("#1;}", 3);
    }

    private static void faultsOfExpressions() {
        faults("#123;", 3);
        faults("#000;", 3);
        faults("#12", 3);
        faults("#1a;", 2);
        faults("#ab;", 2);
        faults("#g;", 1);
        faults("#);", 1);
        faults("#();", 2);
        faults("#(a);", 3);
        faults("#(a+);", 4);
        faults("#(a+b;", 5);
        faults("#(a+b", 5);
        faults("#(a+b+c);", 5);
        faults("#(a/b);", 3);
        faults("#(a>b);", 3);
        faults("#(a=b);", 3);
        faults("#a+b;", 2);
        faults("#!;", 2);
        faults("#a!;", 2);
        faults("#(", 2);
        faults("#(;", 2);
        faults("#(a;", 3);
        faults("#(a+;", 4);
        faults("#(a", 3);
        faults("#(a+", 4);
        faults("#-1;", 1);
    }

    private static void faultsOfBlocks() {
        faults("@", 1);
        faults("@{}", 1);
        faults("@a", 2);
        faults("@a;", 2);
        faults("@a{", 3);
        faults("@a{#1;", 6);
        faults("@a{#1}", 5);
        faults("@a{}:{}", 4);
        faults("@a{}}", 4);
        faults("?", 1);
        faults("?a", 2);
        faults("?a{", 3);
        faults("?a}", 2);
        faults("?a{}:", 5);
        faults("?a{}:#1;", 5);
        faults("?a{}:{", 6);
        faults("?a{}:{}:{}", 7);
        faults("?a{}::{}", 5);
        faults("?a{}:{}}", 7);
        faults("?a{:}", 3);
        faults("?a{#1;:}", 6);
        faults("?a{{}}", 3);
    }

    private static void strangeCharactersFault() {
        String fits = "#?@abcdef";
        for (char c = 33; c <= 126; c++) {
            if (fits.indexOf(c) < 0) {
                faults("#1;" + c, 3);
            }
        }
        for (char c = 33; c <= 126; c++) {
            if ("!(abcdef0123456789".indexOf(c) < 0) {
                faults("#" + c, 1);
            }
        }
    }

    private static void depths() {
        reads("#!!!!!!!a;", "LOAD 0, NOT, NOT, NOT, NOT, NOT, NOT, NOT, PRINT");
        faults("#!!!!!!!!a;", 9);
        faults("#!!!!!!!!", 9);
        faults("#!!!!!!!!;", 9);
        reads("b=!!!!!!!a;", "LOAD 0, NOT, NOT, NOT, NOT, NOT, NOT, NOT, STORE 1");
        faults("b=!!!!!!!!a;", 10);
        reads("@!!!!!!!a{}", "LOAD 0, NOT, NOT, NOT, NOT, NOT, NOT, NOT, UNLESS 10, JUMP 0");
        faults("@!!!!!!!!a{}", 9);
        faults("?!!!!!!!!a{}", 9);
        faults("#!!!!!!!!!a;", 9);
        faults("#!!!!!!!(a+b);", 9);
        reads("#!!!!!!(a+b);", "LOAD 0, LOAD 1, ADD, NOT, NOT, NOT, NOT, NOT, NOT, PRINT");
        reads("#(a-(b-(c-(d-(e-(f-(6-7)))))));",
            "LOAD 0, LOAD 1, LOAD 2, LOAD 3, LOAD 4, LOAD 5, PUSH 6, PUSH 7" + ", SUB".repeat(7) + ", PRINT");
        faults("#(a-(b-(c-(d-(e-(f-(6-(7-8))))))));", 23);
        faults("#(a-(b-(c-(d-(e-(f-(6-(", 23);
        faults("#(a-(b-(c-(d-(e-(f-(6-!7)))))));", 23);
        faults("#((((((((1+2)+3)+4)+5)+6)+7)+8)+9);", 9);
        // Depth is that of one expression; those of a statement round it do not count.
        reads("?!!!!!!!a{#!!!!!!!b;}", "LOAD 0" + ", NOT".repeat(7) + ", UNLESS 18, LOAD 1" + ", NOT".repeat(7)
            + ", PRINT");
        String six = "?a{".repeat(6);
        reads(six + "}".repeat(6), "LOAD 0, UNLESS 12, ".repeat(5) + "LOAD 0, UNLESS 12");
        faults(six + "#a;" + "}".repeat(6), 18);
        faults(six + "b=1;" + "}".repeat(6), 18);
        faults(six + "@", 18);
        faults(six, 18);
        faults("?a{".repeat(7), 18);
        reads("?a{".repeat(5) + "#1;" + "}".repeat(5), "LOAD 0, UNLESS 12, ".repeat(5) + "PUSH 1, PRINT");
        faults("?a{".repeat(5) + "?a{}:{#1;}" + "}".repeat(5), 21);
        faults("@a{".repeat(6) + "#1;" + "}".repeat(6), 18);
    }

    private static void tooMuchCode() {
        String fifteen = "#1;".repeat(15);
        reads(fifteen, "PUSH 1, PRINT, ".repeat(14) + "PUSH 1, PRINT");
        faults("#!1;" + "#1;".repeat(14), 46);
        faults("#1;".repeat(40), 120);
        reads("?a{" + "#1;".repeat(14) + "}", "LOAD 0, UNLESS 30" + ", PUSH 1, PRINT".repeat(14));
        faults("?a{" + "#1;".repeat(14) + "}:{}", 49);
        faults("@a{" + "#1;".repeat(14) + "}", 46);
        // Another fault counts before that.
        faults("#1;".repeat(20) + "x", 60);
        faults("#1;".repeat(20) + "#", 61);
        faults("#1;".repeat(20) + "?a{".repeat(7), 78);
        faults("#!!!!!!!a;".repeat(12), 120);
        faults("@a{}".repeat(30), 120);
        faults("?a{}:{}".repeat(17), 119);
        SourceDesk desk = Due.deskWithDraft("@a{}".repeat(30));
        desk.read();
        Due.write(desk, "@b{}");
        Due.is("a short draft behind a long one", desk.read(), 3);
        Due.is("its code", Due.codeOf(desk), "LOAD 1, UNLESS 3, JUMP 0");
    }

    private static void readLeavesTheRest() {
        SourceDesk desk = Due.deskWith(KEPT);
        desk.lift();
        desk.run(1, 400);
        Due.write(desk, "b=1;");
        desk.read();
        Due.is("the text stays", Due.textOf(desk), "#77;");
        Due.is("the tree stays", desk.count(5), 1);
        Due.is("the output stays", desk.output(0), 77);
        Due.is("the draft stays", desk.count(1), 4);
        desk.change(0, 0, 2);
        Due.is("the code is another one than the draft's", desk.read(), 2);
        Due.is("read again", Due.codeOf(desk), "PUSH 1, STORE 1");
        desk.put(0, 3);
        Due.is("code goes on behind it", Due.codeOf(desk), "PUSH 1, STORE 1, PUSH 3");
        Due.is("HEIGHTS too", desk.code(3, 2), 1);
    }
}
