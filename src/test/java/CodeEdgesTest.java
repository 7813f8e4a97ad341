/** The boundary cases of promises 1 to 6 and of their terms, a method for each sentence. */
public final class CodeEdgesTest {
    private static final int LEAST = Integer.MIN_VALUE;
    private static final int MOST = Integer.MAX_VALUE;
    private static final int[] BARE = {3, 4, 5, 6, 7, 10};

    private CodeEdgesTest() {
    }

    public static void main(String[] args) {
        newObjectIsEmpty();
        codeHasAtMostThirty();
        rangesOfNumbers();
        bareOpsTakeAnyNumber();
        putTellsHowMany();
        putRefusesOps();
        putIsFull();
        changeOfTheFirstAndTheLast();
        changeWhereNoneIs();
        changeByWrongNumbers();
        clearTellsHowMany();
        clearRefuses();
        codeOfTheFirstAndTheLast();
        codeRefuses();
        codeWhereNoneIs();
        heightBehindTheLast();
        heightBeforeTheFirst();
        heightsRiseAndFall();
        leastWrongPlace();
        heightsTooLowForTwo();
        heightsTooLowForNot();
        heightsTooHigh();
        heightsThatMustBeOne();
        heightsThatMustBeNone();
        jumpsBeyondTheEnd();
        jumpsIntoExpressions();
        heightAtTheEnd();
        Due.end();
    }

    private static void newObjectIsEmpty() {
        Due.sentence("The CODE, the DRAFT, the TEXT and the OUTPUT are empty.");
        SourceDesk desk = new SourceDesk();
        for (int what = 0; what <= 15; what++) {
            Due.is("count(" + what + ")", desk.count(what), 0);
        }
        Due.is("text(-1)", desk.text(-1), 0);
        Due.is("text(0)", desk.text(0), SourceDesk.NONE);
        Due.is("output(0)", desk.output(0), 0);
        Due.is("where()", desk.where(), SourceDesk.NONE);
        Due.is("verify()", desk.verify(), SourceDesk.NONE);
        Due.is("code(0, 0)", desk.code(0, 0), SourceDesk.NONE);
        Due.is("code(0, 2)", desk.code(0, 2), 0);
        Due.is("change(0, 0, 0)", desk.change(0, 0, 0), false);
        Due.is("walk(0, 400)", desk.walk(0, 400), SourceDesk.NONE);
        Due.is("run(0, 0)", desk.run(0, 0), 0);
        Due.is("clear(0)", desk.clear(0), 0);
        Due.is("clear(1)", desk.clear(1), 0);
        Due.is("lift()", new SourceDesk().lift(), 0);
        Due.is("copy()", new SourceDesk().copy(), 0);
        Due.is("read()", new SourceDesk().read(), 0);
        Due.is("put(0, 0)", new SourceDesk().put(0, 0), 1);
        Due.is("letter(33)", new SourceDesk().letter(33), 1);
    }

    /** A desk whose INSTRUCTIONS are PUSH 0, PUSH 1, .. */
    private static SourceDesk pushes(int many) {
        SourceDesk desk = new SourceDesk();
        for (int i = 0; i < many; i++) {
            desk.put(0, i);
        }
        return desk;
    }

    private static void holdsPushes(String told, SourceDesk desk, int many) {
        Due.is(told + ": count(0)", desk.count(0), many);
        for (int p = 0; p < many; p++) {
            Due.is(told + ": op of " + p, desk.code(p, 0), 0);
            Due.is(told + ": a of " + p, desk.code(p, 1), p);
        }
        Due.is(told + ": behind the last", desk.code(many, 0), SourceDesk.NONE);
    }

    private static void codeHasAtMostThirty() {
        Due.sentence("CODE has INSTRUCTIONS (op, a) at PLACES 0, 1, .., at most 30; n is how many.");
        holdsPushes("none", pushes(0), 0);
        holdsPushes("one", pushes(1), 1);
        holdsPushes("29", pushes(29), 29);
        holdsPushes("30", pushes(30), 30);
        holdsPushes("31", pushes(31), 30);
        holdsPushes("60", pushes(60), 30);
    }

    private static void rangesOfNumbers() {
        Due.sentence("0 PUSH a (0 to 99)");
        range(0, 99);
        Due.sentence("1 LOAD a (0 to 5)");
        range(1, 5);
        Due.sentence("2 STORE a (0 to 5)");
        range(2, 5);
        Due.sentence("8 JUMP a (0 to 30)");
        range(8, 30);
        Due.sentence("9 UNLESS a (0 to 30)");
        range(9, 30);
    }

    private static void range(int op, int most) {
        for (int a : new int[] {0, 1, most - 1, most}) {
            SourceDesk desk = pushes(2);
            Due.is("put(" + op + ", " + a + ")", desk.put(op, a), 3);
            Due.is("its a", desk.code(2, 1), a);
            Due.is("change(0, " + op + ", " + a + ")", desk.change(0, op, a), true);
            Due.is("its op", desk.code(0, 0), op);
            Due.is("its a", desk.code(0, 1), a);
        }
        for (int a : new int[] {LEAST, -most, -1, most + 1, 2 * most, 128, 256, MOST}) {
            SourceDesk desk = pushes(2);
            Due.is("put(" + op + ", " + a + ")", desk.put(op, a), SourceDesk.REFUSED);
            holdsPushes("behind it", desk, 2);
            Due.is("change(0, " + op + ", " + a + ")", desk.change(0, op, a), false);
            holdsPushes("behind it", desk, 2);
        }
    }

    private static void bareOpsTakeAnyNumber() {
        Due.sentence("(For ops without a that is not looked at, and is 0.)");
        for (int op : BARE) {
            for (int a : new int[] {LEAST, -1, 0, 1, 31, 100, MOST}) {
                SourceDesk desk = pushes(2);
                Due.is("put(" + op + ", " + a + ")", desk.put(op, a), 3);
                Due.is("its op", desk.code(2, 0), op);
                Due.is("its a", desk.code(2, 1), 0);
                Due.is("change(1, " + op + ", " + a + ")", desk.change(1, op, a), true);
                Due.is("its op", desk.code(1, 0), op);
                Due.is("its a", desk.code(1, 1), 0);
            }
        }
    }

    private static void putTellsHowMany() {
        Due.sentence("An INSTRUCTION comes to the end of the CODE: how many there are.");
        SourceDesk desk = new SourceDesk();
        for (int i = 1; i <= 30; i++) {
            Due.is("put number " + i, desk.put(0, i - 1), i);
            Due.is("it is the last one", desk.code(i - 1, 1), i - 1);
        }
        desk.clear(0);
        Due.is("put behind clear(0)", desk.put(0, 5), 1);
        Due.write(desk, "#1;#2;");
        desk.read();
        Due.is("put behind read()", desk.put(0, 6), 5);
        Due.is("it is the last one", desk.code(4, 1), 6);
    }

    private static void putRefusesOps() {
        Due.sentence("REFUSED if op (0 to 10) or a is not as said");
        SourceDesk desk = pushes(2);
        for (int op : new int[] {LEAST, -2, -1, 11, 12, 256, MOST}) {
            Due.is("put(" + op + ", 0)", desk.put(op, 0), SourceDesk.REFUSED);
            Due.is("change(0, " + op + ", 0)", desk.change(0, op, 0), false);
            holdsPushes("behind it", desk, 2);
        }
        for (int op = 0; op <= 10; op++) {
            Due.is("put(" + op + ", 0)", desk.put(op, 0), op + 3);
            Due.is("its op", desk.code(op + 2, 0), op);
        }
    }

    private static void putIsFull() {
        Due.sentence("FULL if there are 30.");
        SourceDesk desk = pushes(29);
        Due.is("put number 30", desk.put(0, 29), 30);
        Due.is("put number 31", desk.put(0, 50), SourceDesk.FULL);
        Due.is("put of a bare op", desk.put(10, 0), SourceDesk.FULL);
        Due.is("a number not as said", desk.put(0, 100), SourceDesk.REFUSED);
        Due.is("an op not as said", desk.put(11, 0), SourceDesk.REFUSED);
        holdsPushes("behind it", desk, 30);
        Due.is("clear(0)", desk.clear(0), 30);
        Due.is("put goes again", desk.put(0, 7), 1);
    }

    private static void changeOfTheFirstAndTheLast() {
        Due.sentence("INSTRUCTION p is another one: true");
        for (int many : new int[] {1, 2, 30}) {
            SourceDesk desk = pushes(many);
            Due.is("change of the last of " + many, desk.change(many - 1, 1, 5), true);
            Due.is("its op", desk.code(many - 1, 0), 1);
            Due.is("its a", desk.code(many - 1, 1), 5);
            Due.is("change of the first", desk.change(0, 2, 4), true);
            Due.is("its op", desk.code(0, 0), 2);
            Due.is("its a", desk.code(0, 1), 4);
            Due.is("as many as before", desk.count(0), many);
            Due.is("the last", desk.code(many - 1, 0), many == 1 ? 2 : 1);
        }
    }

    private static void changeWhereNoneIs() {
        Due.sentence("false if there is none such");
        for (int many : new int[] {0, 1, 2, 29, 30}) {
            SourceDesk desk = pushes(many);
            for (int p : new int[] {LEAST, -1, many, many + 1, 30, 31, MOST}) {
                Due.is("change(" + p + ", 1, 0) of " + many, desk.change(p, 1, 0), false);
            }
            holdsPushes("behind it", desk, many);
        }
        SourceDesk desk = pushes(3);
        desk.clear(0);
        Due.is("change behind clear(0)", desk.change(0, 0, 0), false);
        desk.put(0, 0);
        Due.is("change of one that was", desk.change(1, 0, 0), false);
        holdsPushes("behind it", desk, 1);
    }

    private static void changeByWrongNumbers() {
        Due.sentence("or a number is not as said.");
        SourceDesk desk = pushes(3);
        int[][] wrong = {{-1, 0}, {11, 0}, {0, -1}, {0, 100}, {1, 6}, {2, 6}, {8, 31}, {9, 31}};
        for (int[] pair : wrong) {
            for (int p = 0; p <= 3; p++) {
                String told = "change(" + p + ", " + pair[0] + ", " + pair[1] + ")";
                Due.is(told, desk.change(p, pair[0], pair[1]), false);
            }
            holdsPushes("behind it", desk, 3);
        }
    }

    private static void clearTellsHowMany() {
        Due.sentence("The CODE (what 0) or the DRAFT (what 1) is empty: how many INSTRUCTIONS or characters it had.");
        for (int many : new int[] {0, 1, 30}) {
            SourceDesk desk = pushes(many);
            Due.write(desk, "#".repeat(4 * many));
            Due.is("clear(0)", desk.clear(0), many);
            Due.is("count(0)", desk.count(0), 0);
            Due.is("code(0, 0)", desk.code(0, 0), SourceDesk.NONE);
            Due.is("code(0, 2)", desk.code(0, 2), 0);
            Due.is("the DRAFT stays", desk.count(1), 4 * many);
            Due.is("clear(0) again", desk.clear(0), 0);
            desk.put(0, 0);
            Due.is("clear(1)", desk.clear(1), 4 * many);
            Due.is("count(1)", desk.count(1), 0);
            Due.is("the CODE stays", desk.count(0), 1);
            Due.is("clear(1) again", desk.clear(1), 0);
        }
    }

    private static void clearRefuses() {
        Due.sentence("REFUSED for another what.");
        SourceDesk desk = pushes(2);
        Due.write(desk, "#1;");
        for (int what : new int[] {LEAST, -2, -1, 2, 3, 256, MOST}) {
            Due.is("clear(" + what + ")", desk.clear(what), SourceDesk.REFUSED);
            holdsPushes("behind it", desk, 2);
            Due.is("the DRAFT stays", desk.count(1), 3);
        }
    }

    private static void codeOfTheFirstAndTheLast() {
        Due.sentence("Of INSTRUCTION p what 0: its op, 1: its a, 2: the HEIGHT before it.");
        for (int many : new int[] {1, 2, 30}) {
            SourceDesk desk = pushes(many - 1);
            desk.put(9, 30);
            Due.is("op of the last of " + many, desk.code(many - 1, 0), 9);
            Due.is("a of the last of " + many, desk.code(many - 1, 1), 30);
            Due.is("HEIGHT before the last of " + many, desk.code(many - 1, 2), many - 1);
            Due.is("op of the first of " + many, desk.code(0, 0), many == 1 ? 9 : 0);
            Due.is("a of the first of " + many, desk.code(0, 1), many == 1 ? 30 : 0);
        }
    }

    private static void codeRefuses() {
        Due.sentence("REFUSED for another what");
        SourceDesk desk = pushes(2);
        for (int what : new int[] {LEAST, -2, -1, 3, 4, MOST}) {
            for (int p : new int[] {-1, 0, 1, 2, 3}) {
                Due.is("code(" + p + ", " + what + ")", desk.code(p, what), SourceDesk.REFUSED);
            }
        }
    }

    private static void codeWhereNoneIs() {
        Due.sentence("NONE if there is none such.");
        for (int many : new int[] {0, 1, 29, 30}) {
            SourceDesk desk = pushes(30);
            desk.clear(0);
            for (int i = 0; i < many; i++) {
                desk.put(0, i);
            }
            for (int p : new int[] {LEAST, -1, many + 1, 31, MOST}) {
                for (int what = 0; what <= 2; what++) {
                    Due.is("code(" + p + ", " + what + ") of " + many, desk.code(p, what), SourceDesk.NONE);
                }
            }
            Due.is("code(n, 0) of " + many, desk.code(many, 0), SourceDesk.NONE);
            Due.is("code(n, 1) of " + many, desk.code(many, 1), SourceDesk.NONE);
        }
    }

    private static void heightBehindTheLast() {
        Due.sentence("(2 also for p = n.)");
        for (int many = 0; many <= 30; many++) {
            Due.is("code(" + many + ", 2) of so many", pushes(many).code(many, 2), many);
            Due.is("code(" + (many + 1) + ", 2) of one less", pushes(many).code(many + 1, 2), SourceDesk.NONE);
        }
    }

    private static void heightBeforeTheFirst() {
        Due.sentence("The HEIGHT before PLACE 0 is 0");
        for (int op = 0; op <= 10; op++) {
            SourceDesk desk = new SourceDesk();
            Due.is("code(0, 2) of empty CODE", desk.code(0, 2), 0);
            desk.put(op, 0);
            Due.is("code(0, 2) before op " + op, desk.code(0, 2), 0);
            desk.clear(0);
            Due.is("code(0, 2) behind clear(0)", desk.code(0, 2), 0);
        }
    }

    private static void heightsRiseAndFall() {
        Due.sentence("behind PUSH and LOAD it is 1 more, behind STORE, ADD, SUB, MUL, LESS, UNLESS and PRINT 1 less, "
            + "behind NOT and JUMP the same as before; that behind an INSTRUCTION is the one before the next PLACE.");
        int[] rise = {1, 1, -1, -1, -1, -1, -1, 0, 0, -1, -1};
        for (int op = 0; op <= 10; op++) {
            SourceDesk desk = new SourceDesk();
            for (int i = 0; i < 30; i++) {
                desk.put(op, 0);
            }
            for (int p : new int[] {0, 1, 2, 17, 29, 30}) {
                Due.is("HEIGHT before " + p + ", all op " + op, desk.code(p, 2), p * rise[op]);
            }
            desk.change(0, 0, 0);
            Due.is("with PUSH first", desk.code(30, 2), 1 + 29 * rise[op]);
            desk.change(29, 10, 0);
            Due.is("with PRINT last", desk.code(30, 2), 28 * rise[op]);
        }
    }

    private static void wrongAt(String code, int place) {
        Due.is("verify() of " + code, Due.deskWith(code).verify(), place);
    }

    private static void leastWrongPlace() {
        Due.sentence("The least PLACE (0 to n) that is WRONG; NONE if there is none.");
        wrongAt("", SourceDesk.NONE);
        wrongAt("PRINT", 0);
        wrongAt("PUSH 1", 1);
        wrongAt("PUSH 1, PRINT", SourceDesk.NONE);
        wrongAt("PUSH 1, PRINT, PRINT, ADD, JUMP 30", 2);
        wrongAt("JUMP 9, NOT, PUSH 1", 0);
        String most = "PUSH 1, PRINT, ".repeat(14);
        wrongAt(most + "PUSH 1, PRINT", SourceDesk.NONE);
        wrongAt(most + "PUSH 1, JUMP 0", 29);
        wrongAt(most + "PUSH 1, NOT", 30);
        wrongAt("NOT, PRINT" + ", PUSH 1, PRINT".repeat(14), 0);
    }

    /** Looks at an op behind so many PUSH that the HEIGHT before it is any right one, and 8. */
    private static void rightFor(String instruction, int lowest, int highest) {
        for (int height = 0; height <= 8; height++) {
            String code = "PUSH 1, ".repeat(height) + instruction;
            boolean wrong = Due.deskWith(code).verify() == height;
            boolean due = height < lowest || height > highest;
            Due.is(instruction + " at HEIGHT " + height + " is WRONG", wrong, due);
        }
    }

    private static void heightsTooLowForTwo() {
        Due.sentence("A PLACE is WRONG if the HEIGHT before it is below 2 for ADD, SUB, MUL, LESS");
        for (String op : new String[] {"ADD", "SUB", "MUL", "LESS"}) {
            rightFor(op, 2, 8);
            wrongAt(op, 0);
            wrongAt("PUSH 1, " + op + ", PRINT", 1);
            wrongAt("PUSH 1, PUSH 1, " + op + ", PRINT", SourceDesk.NONE);
        }
    }

    private static void heightsTooLowForNot() {
        Due.sentence("below 1 for NOT");
        rightFor("NOT", 1, 8);
        wrongAt("NOT", 0);
        wrongAt("PUSH 1, NOT, PRINT", SourceDesk.NONE);
        wrongAt("PUSH 1, PRINT, NOT", 2);
    }

    private static void heightsTooHigh() {
        Due.sentence("above 7 for PUSH, LOAD");
        rightFor("PUSH 1", 0, 7);
        rightFor("LOAD 1", 0, 7);
        String sums = ", ADD, ADD, ADD, ADD, ADD, ADD, ADD, PRINT";
        wrongAt("PUSH 1, ".repeat(7) + "PUSH 1" + sums, SourceDesk.NONE);
        wrongAt("LOAD 1, ".repeat(7) + "LOAD 1" + sums, SourceDesk.NONE);
        wrongAt("PUSH 1, ".repeat(8) + "PUSH 1, ADD" + sums, 8);
        wrongAt("LOAD 1, ".repeat(8) + "LOAD 1, ADD" + sums, 8);
    }

    private static void heightsThatMustBeOne() {
        Due.sentence("not 1 for STORE, UNLESS, PRINT");
        for (String op : new String[] {"STORE 1", "UNLESS 0", "PRINT"}) {
            rightFor(op, 1, 1);
            wrongAt(op, 0);
            wrongAt("PUSH 1, " + op, SourceDesk.NONE);
            wrongAt("PUSH 1, PUSH 1, " + op, 2);
        }
    }

    private static void heightsThatMustBeNone() {
        Due.sentence("not 0 for JUMP");
        rightFor("JUMP 0", 0, 0);
        wrongAt("JUMP 0", SourceDesk.NONE);
        wrongAt("PUSH 1, JUMP 0, PRINT", 1);
        wrongAt("PUSH 1, PRINT, JUMP 0", SourceDesk.NONE);
    }

    private static void jumpsBeyondTheEnd() {
        Due.sentence("or if a JUMP or UNLESS there has a above n");
        wrongAt("JUMP 1", SourceDesk.NONE);
        wrongAt("JUMP 2", 0);
        wrongAt("JUMP 30", 0);
        wrongAt("PUSH 1, UNLESS 2", SourceDesk.NONE);
        wrongAt("PUSH 1, UNLESS 3", 1);
        wrongAt("PUSH 1, UNLESS 30", 1);
        String rest = ", PUSH 1, PRINT".repeat(14);
        wrongAt("PUSH 1, UNLESS 30" + rest, SourceDesk.NONE);
        wrongAt("JUMP 29" + rest, SourceDesk.NONE);
        wrongAt("JUMP 30" + rest, 0);
        SourceDesk desk = Due.deskWith("JUMP 2");
        desk.put(8, 3);
        Due.is("one too few", desk.verify(), 1);
        desk.put(8, 0);
        Due.is("just enough", desk.verify(), SourceDesk.NONE);
        // What was there before clear is no PLACE any more.
        SourceDesk shorter = Due.deskWith("PUSH 1, PRINT, PUSH 1, PRINT");
        Due.load(shorter, "JUMP 2");
        Due.is("behind clear(0)", shorter.verify(), 0);
    }

    private static void jumpsIntoExpressions() {
        Due.sentence("or the HEIGHT before PLACE a is not 0.");
        wrongAt("JUMP 2, PUSH 1, PRINT", 0);
        wrongAt("JUMP 3, PUSH 1, PRINT", SourceDesk.NONE);
        wrongAt("PUSH 1, UNLESS 1", 1);
        wrongAt("PUSH 1, UNLESS 0", SourceDesk.NONE);
        wrongAt("PUSH 1, PRINT, JUMP 1", 2);
        wrongAt("PUSH 1, UNLESS 4, PUSH 1, PUSH 1, ADD, PRINT", 1);
        // Below 0 is not 0 either: PLACE 4 is behind a PRINT too many.
        wrongAt("JUMP 4, PUSH 1, PRINT, PRINT", 0);
        wrongAt("JUMP 3, PUSH 1, PRINT, PRINT", 3);
        // PLACE n too.
        wrongAt("JUMP 2, PUSH 1", 0);
    }

    private static void heightAtTheEnd() {
        Due.sentence("PLACE n is WRONG if the HEIGHT before it is not 0.");
        wrongAt("", SourceDesk.NONE);
        for (int many = 1; many <= 8; many++) {
            wrongAt("LOAD 0" + ", LOAD 0".repeat(many - 1), many);
        }
        wrongAt("PUSH 1, PRINT, LOAD 0", 3);
        wrongAt("PUSH 1, NOT", 2);
        wrongAt("PUSH 1" + ", NOT".repeat(29), 30);
        wrongAt("PUSH 1" + ", NOT".repeat(28) + ", PRINT", SourceDesk.NONE);
    }
}
