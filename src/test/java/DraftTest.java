/** Promises 9 to 12: where (of read), letter, copy, read; DraftEdgesTest has their edges. */
public final class DraftTest {
    private DraftTest() {
    }

    public static void main(String[] args) {
        copyBrings();
        readsExpressions();
        readsStatements();
        readsBranches();
        faultsOfStatements();
        faultsOfExpressions();
        faultsOfBlocks();
        readLeavesTheRest();
        Due.end();
    }

    private static void copyBrings() {
        SourceDesk desk = Due.deskWith("PUSH 7, STORE 1, LOAD 1, PRINT");
        Due.is("copy of no text", desk.copy(), 0);
        desk.lift();
        Due.write(desk, "#1;#2;#3;#4;");
        Due.is("copy()", desk.copy(), 7);
        Due.is("the draft has as many", desk.count(1), 7);
        Due.is("the text stays", Due.textOf(desk), "b=7;#b;");
        desk.clear(0);
        Due.is("read()", desk.read(), 4);
        Due.is("the code is back", Due.codeOf(desk), "PUSH 7, STORE 1, LOAD 1, PRINT");
        desk.letter('#');
        desk.letter('5');
        desk.letter(';');
        Due.is("the draft goes on behind it", desk.read(), 6);
        Due.is("the text is another row", Due.textOf(desk), "b=7;#b;");
        Due.load(desk, "JUMP 0");
        desk.lift();
        Due.is("copy of the empty text", desk.copy(), 0);
        Due.is("the draft is empty", desk.count(1), 0);
        Due.is("read of it", desk.read(), 0);
    }

    private static void readsExpressions() {
        for (int number = 0; number <= 99; number++) {
            Due.reads("#" + number + ";", "PUSH " + number + ", PRINT");
        }
        for (int number = 0; number <= 9; number++) {
            Due.reads("#0" + number + ";", "PUSH " + number + ", PRINT");
        }
        for (int v = 0; v < 6; v++) {
            Due.reads("#" + (char) ('a' + v) + ";", "LOAD " + v + ", PRINT");
        }
        Due.reads("#(1+a);", "PUSH 1, LOAD 0, ADD, PRINT");
        Due.reads("#(1-a);", "PUSH 1, LOAD 0, SUB, PRINT");
        Due.reads("#(1*a);", "PUSH 1, LOAD 0, MUL, PRINT");
        Due.reads("#(1<a);", "PUSH 1, LOAD 0, LESS, PRINT");
        Due.reads("#!!1;", "PUSH 1, NOT, NOT, PRINT");
        Due.reads("#!(!b*!(c<d));", "LOAD 1, NOT, LOAD 2, LOAD 3, LESS, NOT, MUL, NOT, PRINT");
        Due.reads("#((10+2)-03);", "PUSH 10, PUSH 2, ADD, PUSH 3, SUB, PRINT");
    }

    private static void readsStatements() {
        Due.reads("", "");
        for (int v = 0; v < 6; v++) {
            Due.reads((char) ('a' + v) + "=5;", "PUSH 5, STORE " + v);
        }
        Due.reads("b=5;#b;a=6;", "PUSH 5, STORE 1, LOAD 1, PRINT, PUSH 6, STORE 0");
    }

    private static void readsBranches() {
        Due.reads("?a{}", "LOAD 0, UNLESS 2");
        Due.reads("?a{#b;}#c;", "LOAD 0, UNLESS 4, LOAD 1, PRINT, LOAD 2, PRINT");
        Due.reads("@a{}", "LOAD 0, UNLESS 3, JUMP 0");
        Due.reads("#c;@a{#b;}#d;", "LOAD 2, PRINT, LOAD 0, UNLESS 7, LOAD 1, PRINT, JUMP 2, LOAD 3, PRINT");
        Due.reads("@(a<1){}", "LOAD 0, PUSH 1, LESS, UNLESS 5, JUMP 0");
        Due.reads("?a{}:{}", "LOAD 0, UNLESS 3, JUMP 3");
        Due.reads("?a{#b;}:{#c;}#d;",
            "LOAD 0, UNLESS 5, LOAD 1, PRINT, JUMP 7, LOAD 2, PRINT, LOAD 3, PRINT");
        Due.reads("?a{?b{}:{#c;}}:{@d{}}", "LOAD 0, UNLESS 8, LOAD 1, UNLESS 5, JUMP 7, LOAD 2, PRINT, "
            + "JUMP 11, LOAD 3, UNLESS 11, JUMP 8");
        Due.reads("?a{}?b{}", "LOAD 0, UNLESS 2, LOAD 1, UNLESS 4");
    }

    private static void faultsOfStatements() {
        Due.faults("}", 0);
        Due.faults("{", 0);
        Due.faults(";", 0);
        Due.faults(":", 0);
        Due.faults("1", 0);
        Due.faults("(", 0);
        Due.faults("!", 0);
        Due.faults("g=1;", 0);
        Due.faults("A=1;", 0);
        Due.faults("`=1;", 0);
        Due.faults("a", 1);
        Due.faults("a=", 2);
        Due.faults("a=1", 3);
        Due.faults("a==1;", 2);
        Due.faults("a1;", 1);
        Due.faults("a=1;;", 4);
        Due.faults("a=1}", 3);
        Due.faults("#", 1);
        Due.faults("#;", 1);
        Due.faults("#a", 2);
        Due.faults("#a=", 2);
        Due.faults("#1;#2;x", 6);
        Due.faults("#1;}", 3);
    }

    private static void faultsOfExpressions() {
        Due.faults("#123;", 3);
        Due.faults("#000;", 3);
        Due.faults("#12", 3);
        Due.faults("#1a;", 2);
        Due.faults("#ab;", 2);
        Due.faults("#g;", 1);
        Due.faults("#);", 1);
        Due.faults("#();", 2);
        Due.faults("#(a);", 3);
        Due.faults("#(a+);", 4);
        Due.faults("#(a+b;", 5);
        Due.faults("#(a+b", 5);
        Due.faults("#(a+b+c);", 5);
        Due.faults("#(a/b);", 3);
        Due.faults("#(a>b);", 3);
        Due.faults("#(a=b);", 3);
        Due.faults("#a+b;", 2);
        Due.faults("#!;", 2);
        Due.faults("#a!;", 2);
        Due.faults("#(", 2);
        Due.faults("#(;", 2);
        Due.faults("#(a;", 3);
        Due.faults("#(a+;", 4);
        Due.faults("#(a", 3);
        Due.faults("#(a+", 4);
        Due.faults("#-1;", 1);
    }

    private static void faultsOfBlocks() {
        Due.faults("@", 1);
        Due.faults("@{}", 1);
        Due.faults("@a", 2);
        Due.faults("@a;", 2);
        Due.faults("@a{", 3);
        Due.faults("@a{#1;", 6);
        Due.faults("@a{#1}", 5);
        Due.faults("@a{}:{}", 4);
        Due.faults("@a{}}", 4);
        Due.faults("?", 1);
        Due.faults("?a", 2);
        Due.faults("?a{", 3);
        Due.faults("?a}", 2);
        Due.faults("?a{}:", 5);
        Due.faults("?a{}:#1;", 5);
        Due.faults("?a{}:{", 6);
        Due.faults("?a{}:{}:{}", 7);
        Due.faults("?a{}::{}", 5);
        Due.faults("?a{}:{}}", 7);
        Due.faults("?a{:}", 3);
        Due.faults("?a{#1;:}", 6);
        Due.faults("?a{{}}", 3);
    }

    private static void readLeavesTheRest() {
        SourceDesk desk = Due.deskWith("PUSH 77, PRINT");
        desk.lift();
        desk.run(1, 400);
        Due.write(desk, "b=1;");
        desk.read();
        Due.is("the text stays", Due.textOf(desk), "#77;");
        Due.is("the tree stays", desk.count(5), 1);
        Due.is("the output stays", desk.output(0), 77);
        Due.is("the draft stays", desk.count(1), 4);
        desk.change(0, 0, 2);
        Due.is("the code is another one than the draft's", desk.read(), 2);
        Due.is("read again", Due.codeOf(desk), "PUSH 1, STORE 1");
        desk.put(0, 3);
        Due.is("code goes on behind it", Due.codeOf(desk), "PUSH 1, STORE 1, PUSH 3");
        Due.is("HEIGHTS too", desk.code(3, 2), 1);
    }
}
