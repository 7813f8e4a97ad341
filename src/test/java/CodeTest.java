/** Promises 1 to 6: a new object, put, change, clear, code, verify. */
public final class CodeTest {
    private static final int[] BARE = {3, 4, 5, 6, 7, 10};

    private CodeTest() {
    }

    public static void main(String[] args) {
        newObject();
        putTakesWhatFits();
        putRefuses();
        putIsFull();
        changeReplaces();
        changeRefuses();
        clearEmpties();
        codeTells();
        heightsAreThoseOfTheRow();
        heightsGoWrong();
        jumpsGoWrong();
        theLeastWrongPlaceCounts();
        Due.end();
    }

    private static void newObject() {
        SourceDesk desk = new SourceDesk();
        for (int what = 0; what <= 15; what++) {
            Due.is("new: count(" + what + ")", desk.count(what), 0);
        }
        Due.is("new: text(-1)", desk.text(-1), 0);
        Due.is("new: text(0)", desk.text(0), SourceDesk.NONE);
        Due.is("new: output(0)", desk.output(0), 0);
        Due.is("new: where()", desk.where(), SourceDesk.NONE);
        Due.is("new: verify()", desk.verify(), SourceDesk.NONE);
        Due.is("new: code(0, 0)", desk.code(0, 0), SourceDesk.NONE);
        Due.is("new: code(0, 2)", desk.code(0, 2), 0);
        Due.is("new: walk", desk.walk(0, 400), SourceDesk.NONE);
        Due.is("new: run", desk.run(0, 0), 0);
        Due.is("new: clear(0)", desk.clear(0), 0);
        Due.is("new: clear(1)", desk.clear(1), 0);
        SourceDesk other = new SourceDesk();
        desk.put(0, 1);
        desk.letter('a');
        Due.is("objects are apart: count(0)", other.count(0), 0);
        Due.is("objects are apart: count(1)", other.count(1), 0);
    }

    private static void putTakesWhatFits() {
        SourceDesk desk = new SourceDesk();
        int[][] fits = {{0, 0}, {0, 99}, {1, 0}, {1, 5}, {2, 0}, {2, 5}, {8, 0}, {8, 30}, {9, 0}, {9, 30}};
        for (int i = 0; i < fits.length; i++) {
            Due.is("put(" + fits[i][0] + ", " + fits[i][1] + ")", desk.put(fits[i][0], fits[i][1]), i + 1);
            Due.is("its op", desk.code(i, 0), fits[i][0]);
            Due.is("its a", desk.code(i, 1), fits[i][1]);
        }
        for (int op : BARE) {
            int before = desk.count(0);
            Due.is("put(" + op + ", -7)", desk.put(op, -7), before + 1);
            Due.is("its a is 0", desk.code(before, 1), 0);
            Due.is("put(" + op + ", 1000)", desk.put(op, 1000), before + 2);
            Due.is("its a is 0", desk.code(before + 1, 1), 0);
        }
    }

    private static void putRefuses() {
        SourceDesk desk = new SourceDesk();
        int[][] wrong = {{-1, 0}, {11, 0}, {12, 0}, {Integer.MAX_VALUE, 0}, {Integer.MIN_VALUE, 0},
            {0, -1}, {0, 100}, {1, -1}, {1, 6}, {2, -1}, {2, 6}, {8, -1}, {8, 31}, {9, -1}, {9, 31},
            {0, Integer.MIN_VALUE}, {8, Integer.MAX_VALUE}};
        for (int[] pair : wrong) {
            Due.is("put(" + pair[0] + ", " + pair[1] + ")", desk.put(pair[0], pair[1]), SourceDesk.REFUSED);
            Due.is("nothing came", desk.count(0), 0);
        }
    }

    private static void putIsFull() {
        SourceDesk desk = new SourceDesk();
        for (int i = 1; i <= 30; i++) {
            Due.is("put number " + i, desk.put(0, i), i);
        }
        Due.is("put number 31", desk.put(0, 1), SourceDesk.FULL);
        Due.is("a wrong number is told before FULL", desk.put(0, 100), SourceDesk.REFUSED);
        Due.is("there are 30", desk.count(0), 30);
        Due.is("the last one stays", desk.code(29, 1), 30);
        Due.is("HEIGHT behind 30 PUSH", desk.code(30, 2), 30);
        Due.is("clear(0)", desk.clear(0), 30);
        Due.is("put goes again", desk.put(0, 5), 1);
    }

    private static void changeReplaces() {
        SourceDesk desk = Due.deskWith("PUSH 1, PUSH 2, ADD, PRINT");
        Due.is("change(0, 1, 5)", desk.change(0, 1, 5), true);
        Due.is("change(2, 6, 77)", desk.change(2, 6, 77), true);
        Due.is("the code", Due.codeOf(desk), "LOAD 5, PUSH 2, LESS, PRINT");
        Due.is("a is 0 without a", desk.code(2, 1), 0);
        Due.is("change(3, 2, 3)", desk.change(3, 2, 3), true);
        Due.is("change to the same", desk.change(3, 2, 3), true);
        Due.is("the last one too", Due.codeOf(desk), "LOAD 5, PUSH 2, LESS, STORE 3");
        desk.change(1, 7, 0);
        Due.is("HEIGHTS follow", desk.code(4, 2), -1);
        Due.is("change does not make more", desk.count(0), 4);
    }

    private static void changeRefuses() {
        SourceDesk desk = Due.deskWith("PUSH 1, PRINT");
        int[][] wrong = {{-1, 0, 0}, {2, 0, 0}, {30, 0, 0}, {Integer.MAX_VALUE, 0, 0},
            {Integer.MIN_VALUE, 0, 0}, {0, -1, 0}, {0, 11, 0}, {0, 0, 100}, {0, 0, -1}, {0, 1, 6},
            {0, 2, 6}, {0, 8, 31}, {0, 9, 31}, {0, 9, -1}};
        for (int[] call : wrong) {
            String told = "change(" + call[0] + ", " + call[1] + ", " + call[2] + ")";
            Due.is(told, desk.change(call[0], call[1], call[2]), false);
            Due.is("nothing changes", Due.codeOf(desk), "PUSH 1, PRINT");
        }
        desk.clear(0);
        Due.is("change in empty code", desk.change(0, 0, 0), false);
    }

    private static void clearEmpties() {
        SourceDesk desk = Due.deskWith("PUSH 1, PRINT");
        Due.write(desk, "#1;");
        Due.is("clear(2)", desk.clear(2), SourceDesk.REFUSED);
        Due.is("clear(-1)", desk.clear(-1), SourceDesk.REFUSED);
        Due.is("the code stays", desk.count(0), 2);
        Due.is("the draft stays", desk.count(1), 3);
        desk.lift();
        desk.run(0, 400);
        Due.is("clear(0)", desk.clear(0), 2);
        Due.is("the code is empty", desk.count(0), 0);
        Due.is("only the code is", desk.count(1), 3);
        Due.is("the text stays", Due.textOf(desk), "#1;");
        Due.is("the tree stays", desk.count(5), 1);
        Due.is("the output stays", desk.output(0), 1);
        Due.is("clear(0) again", desk.clear(0), 0);
        Due.is("clear(1)", desk.clear(1), 3);
        Due.is("the draft is empty", desk.count(1), 0);
        Due.is("the text stays", Due.textOf(desk), "#1;");
        desk.put(0, 7);
        Due.is("clear(1) leaves the code", desk.clear(1), 0);
        Due.is("it is there", Due.codeOf(desk), "PUSH 7");
    }

    private static void codeTells() {
        SourceDesk desk = Due.deskWith("PUSH 42, UNLESS 2");
        Due.is("code(0, 0)", desk.code(0, 0), 0);
        Due.is("code(0, 1)", desk.code(0, 1), 42);
        Due.is("code(1, 0)", desk.code(1, 0), 9);
        Due.is("code(1, 1)", desk.code(1, 1), 2);
        Due.is("code(1, 2)", desk.code(1, 2), 1);
        Due.is("code(2, 2)", desk.code(2, 2), 0);
        int[][] none = {{2, 0}, {2, 1}, {3, 2}, {-1, 0}, {-1, 1}, {-1, 2}, {31, 2},
            {Integer.MAX_VALUE, 2}, {Integer.MIN_VALUE, 2}, {Integer.MAX_VALUE, 0}};
        for (int[] call : none) {
            Due.is("code(" + call[0] + ", " + call[1] + ")", desk.code(call[0], call[1]), SourceDesk.NONE);
        }
        Due.is("code(0, 3)", desk.code(0, 3), SourceDesk.REFUSED);
        Due.is("code(0, -1)", desk.code(0, -1), SourceDesk.REFUSED);
        Due.is("code(9, 3)", desk.code(9, 3), SourceDesk.REFUSED);
    }

    private static void heightsAreThoseOfTheRow() {
        SourceDesk desk = Due.deskWith("PUSH 1, LOAD 1, PUSH 1, PUSH 1, PUSH 1, ADD, SUB, MUL, LESS, NOT, "
            + "STORE 0, JUMP 0, PUSH 1, UNLESS 0, PUSH 1, PRINT, PRINT");
        int[] heights = {0, 1, 2, 3, 4, 5, 4, 3, 2, 1, 1, 0, 0, 1, 0, 1, 0, -1};
        for (int p = 0; p < heights.length; p++) {
            Due.is("code(" + p + ", 2)", desk.code(p, 2), heights[p]);
        }
    }

    private static void wrongAt(String code, int place) {
        Due.is("verify() of " + code, Due.deskWith(code).verify(), place);
    }

    private static void heightsGoWrong() {
        String seven = "PUSH 1, PUSH 1, PUSH 1, PUSH 1, PUSH 1, PUSH 1, PUSH 1";
        String sums = ", ADD, ADD, ADD, ADD, ADD, ADD, ADD, PRINT";
        wrongAt("", SourceDesk.NONE);
        wrongAt(seven + ", PUSH 1" + sums, SourceDesk.NONE);
        wrongAt(seven + ", LOAD 1" + sums, SourceDesk.NONE);
        wrongAt(seven + ", PUSH 1, PUSH 1" + sums, 8);
        wrongAt(seven + ", PUSH 1, LOAD 1" + sums, 8);
        for (String op : new String[] {"ADD", "SUB", "MUL", "LESS"}) {
            wrongAt(op, 0);
            wrongAt("PUSH 1, " + op + ", PRINT", 1);
            wrongAt("PUSH 1, PUSH 1, " + op + ", PRINT", SourceDesk.NONE);
        }
        wrongAt("NOT", 0);
        wrongAt("PUSH 1, NOT, PRINT", SourceDesk.NONE);
        for (String op : new String[] {"STORE 1", "PRINT", "UNLESS 0"}) {
            wrongAt(op, 0);
            wrongAt("PUSH 1, " + op, SourceDesk.NONE);
            wrongAt("PUSH 1, PUSH 1, " + op, 2);
        }
        wrongAt("JUMP 0", SourceDesk.NONE);
        wrongAt("PUSH 1, JUMP 0", 1);
        wrongAt("PUSH 1", 1);
        wrongAt("PUSH 1, PRINT, LOAD 0", 3);
    }

    private static void jumpsGoWrong() {
        wrongAt("JUMP 1", SourceDesk.NONE);
        wrongAt("JUMP 2", 0);
        wrongAt("JUMP 30", 0);
        wrongAt("PUSH 1, UNLESS 2", SourceDesk.NONE);
        wrongAt("PUSH 1, UNLESS 3", 1);
        wrongAt("PUSH 1, UNLESS 1", 1);
        wrongAt("JUMP 2, PUSH 1, PRINT", 0);
        wrongAt("JUMP 3, PUSH 1, PRINT", SourceDesk.NONE);
        wrongAt("PUSH 1, PRINT, JUMP 1", 2);
        wrongAt("PUSH 1, PRINT, JUMP 0", SourceDesk.NONE);
    }

    private static void theLeastWrongPlaceCounts() {
        wrongAt("PUSH 1, PRINT, PRINT, ADD, JUMP 30", 2);
        wrongAt("JUMP 9, NOT, PUSH 1", 0);
        SourceDesk desk = Due.deskWith("JUMP 1");
        desk.put(8, 3);
        Due.is("verify()", desk.verify(), 1);
        desk.put(8, 0);
        Due.is("verify() of a longer code", desk.verify(), SourceDesk.NONE);
        Due.is("verify() is no lift", desk.where(), SourceDesk.NONE);
    }
}
