/** Promises 1 to 6: a new object, put, change, clear, code, verify; CodeEdgesTest has their edges. */
public final class CodeTest {
    private static final int[] BARE = {3, 4, 5, 6, 7, 10};

    private CodeTest() {
    }

    public static void main(String[] args) {
        objectsAreApart();
        putTakesWhatFits();
        changeReplaces();
        clearEmpties();
        codeTells();
        heightsAreThoseOfTheRow();
        verifyFindsWrongPlaces();
        Due.end();
    }

    private static void objectsAreApart() {
        SourceDesk one = Due.deskWith("PUSH 1, PRINT");
        SourceDesk other = new SourceDesk();
        Due.write(one, "#1;");
        one.lift();
        one.run(0, 400);
        for (int what = 0; what <= 9; what++) {
            Due.is("objects are apart: count(" + what + ")", other.count(what), 0);
        }
        Due.is("objects are apart: output(0)", other.output(0), 0);
    }

    private static void putTakesWhatFits() {
        SourceDesk desk = new SourceDesk();
        int[][] fits = {{0, 0}, {0, 99}, {1, 0}, {1, 5}, {2, 0}, {2, 5}, {8, 0}, {8, 30}, {9, 0}, {9, 30}};
        for (int i = 0; i < fits.length; i++) {
            Due.is("put(" + fits[i][0] + ", " + fits[i][1] + ")", desk.put(fits[i][0], fits[i][1]), i + 1);
            Due.is("its op", desk.code(i, 0), fits[i][0]);
            Due.is("its a", desk.code(i, 1), fits[i][1]);
        }
        for (int op : BARE) {
            int before = desk.count(0);
            Due.is("put(" + op + ", -7)", desk.put(op, -7), before + 1);
            Due.is("its a is 0", desk.code(before, 1), 0);
            Due.is("put(" + op + ", 1000)", desk.put(op, 1000), before + 2);
            Due.is("its a is 0", desk.code(before + 1, 1), 0);
        }
    }

    private static void changeReplaces() {
        SourceDesk desk = Due.deskWith("PUSH 1, PUSH 2, ADD, PRINT");
        Due.is("change(0, 1, 5)", desk.change(0, 1, 5), true);
        Due.is("change(2, 6, 77)", desk.change(2, 6, 77), true);
        Due.is("the code", Due.codeOf(desk), "LOAD 5, PUSH 2, LESS, PRINT");
        Due.is("a is 0 without a", desk.code(2, 1), 0);
        Due.is("change(3, 2, 3)", desk.change(3, 2, 3), true);
        Due.is("change to the same", desk.change(3, 2, 3), true);
        Due.is("the last one too", Due.codeOf(desk), "LOAD 5, PUSH 2, LESS, STORE 3");
        desk.change(1, 7, 0);
        Due.is("HEIGHTS follow", desk.code(4, 2), -1);
        Due.is("change does not make more", desk.count(0), 4);
    }

    private static void clearEmpties() {
        SourceDesk desk = Due.deskWith("PUSH 1, PRINT");
        Due.write(desk, "#1;");
        Due.is("clear(2)", desk.clear(2), SourceDesk.REFUSED);
        Due.is("clear(-1)", desk.clear(-1), SourceDesk.REFUSED);
        Due.is("the code stays", desk.count(0), 2);
        Due.is("the draft stays", desk.count(1), 3);
        desk.lift();
        desk.run(0, 400);
        Due.is("clear(0)", desk.clear(0), 2);
        Due.is("the code is empty", desk.count(0), 0);
        Due.is("only the code is", desk.count(1), 3);
        Due.is("the text stays", Due.textOf(desk), "#1;");
        Due.is("the tree stays", desk.count(5), 1);
        Due.is("the output stays", desk.output(0), 1);
        Due.is("clear(0) again", desk.clear(0), 0);
        Due.is("clear(1)", desk.clear(1), 3);
        Due.is("the draft is empty", desk.count(1), 0);
        Due.is("the text stays", Due.textOf(desk), "#1;");
        desk.put(0, 7);
        Due.is("clear(1) leaves the code", desk.clear(1), 0);
        Due.is("it is there", Due.codeOf(desk), "PUSH 7");
    }

    private static void codeTells() {
        SourceDesk desk = Due.deskWith("PUSH 42, UNLESS 2");
        Due.is("code(0, 0)", desk.code(0, 0), 0);
        Due.is("code(0, 1)", desk.code(0, 1), 42);
        Due.is("code(1, 0)", desk.code(1, 0), 9);
        Due.is("code(1, 1)", desk.code(1, 1), 2);
        Due.is("code(1, 2)", desk.code(1, 2), 1);
        Due.is("code(2, 2)", desk.code(2, 2), 0);
        int[][] none = {{2, 0}, {2, 1}, {3, 2}, {-1, 0}, {-1, 1}, {-1, 2}, {31, 2},
            {Integer.MAX_VALUE, 2}, {Integer.MIN_VALUE, 2}, {Integer.MAX_VALUE, 0}};
        for (int[] call : none) {
            Due.is("code(" + call[0] + ", " + call[1] + ")", desk.code(call[0], call[1]), SourceDesk.NONE);
        }
        Due.is("code(0, 3)", desk.code(0, 3), SourceDesk.REFUSED);
        Due.is("code(0, -1)", desk.code(0, -1), SourceDesk.REFUSED);
        Due.is("code(9, 3)", desk.code(9, 3), SourceDesk.REFUSED);
    }

    private static void heightsAreThoseOfTheRow() {
        SourceDesk desk = Due.deskWith("PUSH 1, LOAD 1, PUSH 1, PUSH 1, PUSH 1, ADD, SUB, MUL, LESS, NOT, "
            + "STORE 0, JUMP 0, PUSH 1, UNLESS 0, PUSH 1, PRINT, PRINT");
        int[] heights = {0, 1, 2, 3, 4, 5, 4, 3, 2, 1, 1, 0, 0, 1, 0, 1, 0, -1};
        for (int p = 0; p < heights.length; p++) {
            Due.is("code(" + p + ", 2)", desk.code(p, 2), heights[p]);
        }
    }

    private static void verifyFindsWrongPlaces() {
        SourceDesk desk = Due.deskWith("LOAD 0, UNLESS 7, LOAD 0, PUSH 1, SUB, STORE 0, JUMP 0");
        Due.is("verify() of a loop", desk.verify(), SourceDesk.NONE);
        desk.change(4, 7, 0);
        Due.is("verify() with NOT for SUB", desk.verify(), 1);
        desk.change(1, 9, 0);
        Due.is("verify() with UNLESS 0", desk.verify(), 5);
        desk.change(5, 3, 0);
        Due.is("verify() with ADD for STORE", desk.verify(), 6);
        desk.change(6, 2, 5);
        Due.is("verify() with STORE for JUMP", desk.verify(), SourceDesk.NONE);
        Due.is("verify() is no lift", desk.where(), SourceDesk.NONE);
        Due.is("verify() changes nothing", Due.codeOf(desk),
            "LOAD 0, UNLESS 0, LOAD 0, PUSH 1, NOT, ADD, STORE 5");
    }
}
