import java.util.ArrayList;
import java.util.List;

/** The boundary cases of promises 13 to 16 and of their terms, a method for each sentence. */
public final class RunEdgesTest {
    private static final int LEAST = Integer.MIN_VALUE;
    private static final int MOST = Integer.MAX_VALUE;
    private static final int[] WRONG_LIMITS = {LEAST, -400, -1, 401, 402, 65536, MOST};

    private RunEdgesTest() {
    }

    public static void main(String[] args) {
        variablesWrap();
        lessAtItsEdges();
        notAtItsEdges();
        unlessAtItsEdges();
        theCodeEnds();
        variablesBeginAnew();
        theStackIsEmpty();
        theStackIsFull();
        runLimits();
        runAnswers();
        runStops();
        runRefuses();
        treeOfTheLatestLift();
        whileAtItsEdges();
        choicesAtTheirEdges();
        walkLimits();
        walkAnswers();
        walkStops();
        walkRefuses();
        walkWithoutTree();
        outputOfTheFirstAndTheLast();
        outputKeepsTwenty();
        outputBeforeAStop();
        outputWhereNoneIs();
        countsOfRows();
        countsOfRuns();
        countsOfTheTree();
        howDeepTheyLie();
        countsOfVariables();
        countRefuses();
        theLastCalls();
        Due.end();
    }

    /** What run and walk must print alike. */
    private static void both(String draft, int x, String values) {
        SourceDesk desk = Due.lifted(draft);
        int many = values.isEmpty() ? 0 : values.split(" ").length;
        Due.is("run(" + x + ", 400) of " + draft, desk.run(x, 400), many);
        Due.is("its OUTPUT", Due.outputOf(desk), values);
        Due.is("walk(" + x + ", 400) of " + draft, desk.walk(x, 400), many);
        Due.is("its OUTPUT", Due.outputOf(desk), values);
    }

    private static void variablesWrap() {
        Due.sentence("VARIABLES 0 to 5 are ints (wrapping)");
        both("#a;", MOST, "" + MOST);
        both("#a;", LEAST, "" + LEAST);
        both("a=(a+1);#a;", MOST, "" + LEAST);
        both("a=(a-1);#a;", LEAST, "" + MOST);
        both("f=(0-a);#f;", LEAST, "" + LEAST);
        both("f=(a+a);#f;", LEAST, "0");
        both("f=(a+a);#f;", MOST, "-2");
        both("b=(a*a);#b;#(b*b);", 65536, "0 0");
        both("b=(a*a);#b;", 65537, "131073");
        both("b=(a*99);#b;", MOST, "" + MOST * 99);
        both("b=(a*a);#b;", MOST, "1");
        both("b=(a*a);#b;", LEAST, "0");
        SourceDesk desk = Due.lifted("f=(a+1);a=(f-1);");
        desk.run(MOST, 400);
        Due.is("VARIABLE 5 behind run", desk.count(15), LEAST);
        Due.is("VARIABLE 0 behind run", desk.count(10), MOST);
        desk.run(0, 400);
        desk.walk(MOST, 400);
        Due.is("VARIABLE 5 behind walk", desk.count(15), LEAST);
        Due.is("VARIABLE 0 behind walk", desk.count(10), MOST);
    }

    private static void lessAtItsEdges() {
        Due.sentence("or 1 if x is less than y, else 0.");
        both("#(a<5);#(5<a);", 4, "1 0");
        both("#(a<5);#(5<a);", 5, "0 0");
        both("#(a<5);#(5<a);", 6, "0 1");
        both("#(a<0);#(0<a);", -1, "1 0");
        // The difference of the two wraps around.
        both("#(a<1);#(1<a);#(a<(a-1));#((a-1)<a);", LEAST, "1 0 1 0");
        both("b=(0-1);#(a<b);#(b<a);#(a<(a+1));#((a+1)<a);", MOST, "0 1 0 1");
    }

    private static void notAtItsEdges() {
        Due.sentence("7 NOT: of the top value there comes 1 if it is 0, else 0.");
        both("#!a;#!!a;", 0, "1 0");
        for (int x : new int[] {LEAST, -1, 1, 2, 256, MOST}) {
            both("#!a;#!!a;", x, "0 1");
        }
    }

    private static void unlessAtItsEdges() {
        Due.sentence("takes the top value; goes on at PLACE a if it is 0.");
        String code = "LOAD 0, UNLESS 4, PUSH 1, PRINT, PUSH 2, PRINT";
        Due.prints(code, 0, "2");
        for (int x : new int[] {LEAST, -1, 1, 2, 65536, MOST}) {
            Due.prints(code, x, "1 2");
        }
        Due.prints("PUSH 7, LOAD 0, UNLESS 4, PRINT, PRINT", 0, "7");
        Due.prints("PUSH 7, LOAD 0, UNLESS 4, PRINT, PRINT", 1, "7 0");
    }

    private static void theCodeEnds() {
        Due.sentence("Behind an INSTRUCTION the next one comes; at PLACE n or above the CODE ends.");
        Due.prints("", 3, "");
        Due.prints("JUMP 1", 3, "");
        Due.prints("JUMP 2", 3, "");
        Due.prints("JUMP 3, PUSH 1, PRINT", 3, "");
        Due.prints("JUMP 4, PUSH 1, PRINT", 3, "");
        Due.prints("JUMP 30, PUSH 1, PRINT", 3, "");
        Due.prints("JUMP 1, PUSH 1, PRINT", 3, "1");
        Due.prints("LOAD 1, UNLESS 4, PUSH 1, PRINT", 3, "");
        Due.prints("LOAD 1, UNLESS 30, PUSH 1, PRINT", 3, "");
        String rest = ", PUSH 1, PRINT".repeat(13);
        Due.prints("PUSH 0, UNLESS 30, PUSH 1, PRINT" + rest, 3, "");
        Due.prints("JUMP 28, PRINT, PUSH 1, PRINT" + rest, 3, "1");
        Due.prints("JUMP 29, PRINT, PUSH 1, PRINT" + rest, 3, "0");
        // What was there before clear is not done.
        SourceDesk desk = Due.deskWith("PUSH 1, PRINT, PUSH 2, PRINT");
        Due.load(desk, "JUMP 2");
        Due.is("run(0, 400) behind clear(0)", desk.run(0, 400), 0);
        Due.is("INSTRUCTIONS done", desk.count(4), 1);
    }

    private static void variablesBeginAnew() {
        Due.sentence("The CODE is run, with x in VARIABLE 0 and 0 in all others, as it is");
        SourceDesk desk = Due.deskWith("LOAD 0, PRINT, LOAD 1, PRINT, LOAD 5, PRINT, "
            + "PUSH 8, STORE 0, PUSH 9, STORE 1, PUSH 7, STORE 5, PUSH 3, PUSH 4");
        for (int x : new int[] {0, MOST, LEAST, -1}) {
            Due.is("run(" + x + ", 400)", desk.run(x, 400), 3);
            Due.is("OUTPUT", Due.outputOf(desk), x + " 0 0");
            Due.is("VARIABLE 5", desk.count(15), 7);
        }
        Due.is("run(-6, 0)", desk.run(-6, 0), SourceDesk.STOPPED);
        Due.is("VARIABLE 0", desk.count(10), -6);
        for (int v = 1; v <= 5; v++) {
            Due.is("VARIABLE " + v, desk.count(10 + v), 0);
        }
        Due.load(desk, "PRINT");
        desk.run(5, 400);
        Due.is("the STACK is empty at first", desk.output(0), 0);
    }

    private static void theStackIsEmpty() {
        Due.sentence("an INSTRUCTION that takes a value from an empty STACK takes 0");
        Due.prints("PRINT", 5, "0");
        Due.prints("PRINT, PRINT, LOAD 0, PRINT, PRINT", 5, "0 0 5 0");
        Due.prints("STORE 0, LOAD 0, PRINT", 5, "0");
        Due.prints("NOT, PRINT", 5, "1");
        Due.prints("UNLESS 3, PUSH 1, PRINT, PUSH 2, PRINT", 5, "2");
        for (String op : new String[] {"ADD", "SUB", "MUL", "LESS"}) {
            Due.prints(op + ", PRINT, PRINT", 5, "0 0");
        }
        // With one value there, that is y, and x is 0.
        Due.prints("LOAD 0, ADD, PRINT", 5, "5");
        Due.prints("LOAD 0, SUB, PRINT", 5, "-5");
        Due.prints("LOAD 0, MUL, PRINT", 5, "0");
        Due.prints("LOAD 0, LESS, PRINT", 5, "1");
        Due.prints("LOAD 0, LESS, PRINT", -5, "0");
        Due.prints("LOAD 0, SUB, PRINT", LEAST, "" + LEAST);
        Due.prints("JUMP 1, UNLESS 2, NOT, PRINT", 5, "1");
    }

    private static String pushes(int many) {
        List<String> told = new ArrayList<>();
        for (int i = 1; i <= many; i++) {
            told.add("PUSH " + i);
        }
        return String.join(", ", told);
    }

    private static void theStackIsFull() {
        Due.sentence("a value that comes onto a STACK of 16 is lost.");
        Due.prints(pushes(15) + ", PRINT", 0, "15");
        Due.prints(pushes(16) + ", PRINT", 0, "16");
        Due.prints(pushes(17) + ", PRINT, PRINT", 0, "16 15");
        Due.prints(pushes(16) + ", LOAD 0, PRINT, PRINT", 77, "16 15");
        Due.prints(pushes(15) + ", LOAD 0, PRINT, PRINT", 77, "77 15");
        Due.prints(pushes(28) + ", PRINT, PRINT", 0, "16 15");
        // One that takes before it brings finds room.
        Due.prints(pushes(16) + ", NOT, PRINT, PRINT", 0, "0 15");
        Due.prints(pushes(16) + ", ADD, PRINT, PRINT", 0, "31 14");
        Due.prints(pushes(17) + ", SUB, PRINT, PRINT", 0, "-1 14");
        Due.prints(pushes(17) + ", PRINT, PUSH 50, PUSH 51, PRINT, PRINT", 0, "16 50 15");
        SourceDesk desk = Due.deskWith(pushes(18) + ", PRINT, JUMP 18");
        desk.run(0, 400);
        Due.is("sixteen were there", Due.outputOf(desk), "16 15 14 13 12 11 10 9 8 7 6 5 4 3 2 1 0 0 0 0");
    }

    private static void runLimits() {
        Due.sentence("At most limit (0 to 400) INSTRUCTIONS are done.");
        SourceDesk desk = Due.deskWith("JUMP 0");
        for (int limit : new int[] {0, 1, 2, 399, 400}) {
            Due.is("run(0, " + limit + ")", desk.run(0, limit), SourceDesk.STOPPED);
            Due.is("INSTRUCTIONS done", desk.count(4), limit);
        }
        desk.clear(0);
        Due.is("run(0, 0) of empty CODE", desk.run(0, 0), 0);
        Due.is("run(0, 400) of empty CODE", desk.run(0, 400), 0);
        Due.is("INSTRUCTIONS done", desk.count(4), 0);
    }

    private static void runAnswers() {
        Due.sentence("Answers how many values it printed");
        SourceDesk desk = Due.deskWith("PUSH 1, STORE 1");
        Due.is("none", desk.run(0, 400), 0);
        Due.load(desk, "PUSH 1, PRINT");
        Due.is("one", desk.run(0, 400), 1);
        Due.load(desk, "LOAD 0, PRINT, LOAD 0, PUSH 1, SUB, STORE 0, LOAD 0, NOT, UNLESS 0");
        for (int x : new int[] {1, 19, 20, 21, 44}) {
            Due.is("more than are kept too: " + x, desk.run(x, 400), x);
            Due.is("count(3)", desk.count(3), x);
        }
        // Thirty of thirty INSTRUCTIONS: each PRINT takes 0.
        Due.load(desk, "PRINT" + ", PRINT".repeat(29));
        Due.is("thirty", desk.run(0, 30), 30);
    }

    private static void runStops() {
        Due.sentence("STOPPED if one more would have been done.");
        SourceDesk desk = Due.deskWith("PUSH 1, PRINT, PUSH 2, PRINT");
        int[] printed = {0, 0, 1, 1, 2, 2};
        for (int limit = 0; limit <= 5; limit++) {
            Due.is("run(0, " + limit + ")", desk.run(0, limit), limit < 4 ? SourceDesk.STOPPED : 2);
            Due.is("values printed", desk.count(3), printed[limit]);
            Due.is("INSTRUCTIONS done", desk.count(4), Math.min(limit, 4));
        }
        // 7 x + 2 INSTRUCTIONS are done for x, and one more for each NOT behind.
        Due.load(desk, "LOAD 0, UNLESS 7, LOAD 0, PUSH 1, SUB, STORE 0, JUMP 0, NOT, NOT, NOT, NOT, NOT");
        Due.is("one less than 400", desk.run(56, 400), 0);
        Due.is("INSTRUCTIONS done", desk.count(4), 399);
        desk.put(7, 0);
        Due.is("just 400", desk.run(56, 400), 0);
        Due.is("INSTRUCTIONS done", desk.count(4), 400);
        desk.put(7, 0);
        Due.is("one more than 400", desk.run(56, 400), SourceDesk.STOPPED);
        Due.is("INSTRUCTIONS done", desk.count(4), 400);
        // A JUMP to the end is done, and then nothing more is.
        Due.load(desk, "JUMP 30");
        Due.is("run(0, 0)", desk.run(0, 0), SourceDesk.STOPPED);
        Due.is("run(0, 1)", desk.run(0, 1), 0);
    }

    private static void runRefuses() {
        Due.sentence("REFUSED for another limit, and the OUTPUT stays.");
        SourceDesk desk = Due.deskWith("PUSH 8, STORE 2, LOAD 2, PRINT");
        desk.run(3, 400);
        for (int limit : WRONG_LIMITS) {
            Due.is("run(1, " + limit + ")", desk.run(1, limit), SourceDesk.REFUSED);
            staysOfTheRun(desk);
        }
    }

    /** What is left of run(3, 400) of PUSH 8, STORE 2, LOAD 2, PRINT. */
    private static void staysOfTheRun(SourceDesk desk) {
        Due.is("the OUTPUT stays", desk.output(0), 8);
        Due.is("count(3) stays", desk.count(3), 1);
        Due.is("count(4) stays", desk.count(4), 4);
        Due.is("VARIABLE 0 stays", desk.count(10), 3);
        Due.is("VARIABLE 2 stays", desk.count(12), 8);
    }

    private static void treeOfTheLatestLift() {
        Due.sentence("The TREE of the latest lift is run, with x in VARIABLE 0 and 0 in all others: "
            + "STATEMENTS one behind the other");
        SourceDesk desk = Due.lifted("#a;#f;f=7;b=9;");
        desk.clear(0);
        desk.clear(1);
        for (int x : new int[] {0, MOST, LEAST, -1}) {
            Due.is("walk(" + x + ", 400)", desk.walk(x, 400), 2);
            Due.is("OUTPUT", Due.outputOf(desk), x + " 0");
            Due.is("VARIABLE 5", desk.count(15), 7);
        }
        desk.walk(-6, 0);
        Due.is("VARIABLE 0 of a walk that does nothing", desk.count(10), -6);
        Due.is("VARIABLE 5 of a walk that does nothing", desk.count(15), 0);
        desk.lift();
        Due.is("walk(5, 0) of the empty TREE", desk.walk(5, 0), 0);
        Due.is("VARIABLE 0", desk.count(10), 5);
        SourceDesk left = Due.deskWith("PUSH 3, PUSH 4, PUSH 5");
        left.run(0, 400);
        Due.load(left, "PUSH 1, PUSH 2, ADD, PRINT");
        left.lift();
        left.walk(0, 400);
        Due.is("nothing is left on the STACK of a run before", left.output(0), 3);
        // More rounds than the STACK has room for: nothing is left there by a STATEMENT.
        both("@a{b=1;b=2;b=3;a=(a-1);}#a;#b;", 20, "0 3");
    }

    private static void whileAtItsEdges() {
        Due.sentence("WHILE as long as its EXPRESSION is not 0");
        both("@a{a=0;#1;}#2;", 0, "2");
        for (int x : new int[] {LEAST, -1, 1, 2, MOST}) {
            both("@a{a=0;#1;}#2;", x, "1 2");
        }
        both("@a{a=(a-1);}#a;", 40, "0");
        both("b=2;@b{c=2;@c{#(b+c);c=(c-1);}b=(b-1);}", 0, "4 3 3 2");
    }

    private static void choicesAtTheirEdges() {
        Due.sentence("IF and CHOICE their TREE, if it is not 0, else the other part.");
        both("?a{#1;}#2;", 0, "2");
        both("?a{#1;}:{#3;}#2;", 0, "3 2");
        both("?a{}:{#3;}#2;", 0, "3 2");
        both("?a{#1;}:{}#2;", 0, "2");
        for (int x : new int[] {LEAST, -1, 1, 2, MOST}) {
            both("?a{#1;}#2;", x, "1 2");
            both("?a{#1;}:{#3;}#2;", x, "1 2");
            both("?a{}:{#3;}#2;", x, "2");
            both("?a{#1;}:{}#2;", x, "1 2");
        }
    }

    private static void walkLimits() {
        Due.sentence("At most limit (0 to 400) times a STATEMENT is done, each EXPRESSION of a WHILE counting as one.");
        SourceDesk desk = Due.lifted("@1{}");
        for (int limit : new int[] {0, 1, 2, 399, 400}) {
            Due.is("walk(0, " + limit + ")", desk.walk(0, limit), SourceDesk.STOPPED);
            Due.is("STATEMENTS done", desk.count(4), limit);
        }
        takes("", 1, 0);
        takes("#1;", 1, 1);
        takes("b=1;", 1, 1);
        takes("?a{}", 1, 1);
        takes("?a{}", 0, 1);
        takes("?a{}:{}", 0, 1);
        takes("?a{#1;}:{#2;#3;}", 1, 2);
        takes("?a{#1;}:{#2;#3;}", 0, 3);
        takes("@a{}", 0, 1);
        takes("@a{a=0;}", 1, 3);
        takes("@a{a=(a-1);}", 2, 5);
        takes("?a{?a{?a{#a;}}}", 1, 4);
        takes("?a{@a{a=(a-1);}}:{#8;}", 2, 6);
        takes("#a;".repeat(15), 1, 15);
        takes("@a{a=(a-1);}", 199, 399);
        takes("#1;@a{a=(a-1);}", 199, 400);
    }

    /** Just as many as this must the limit leave. */
    private static void takes(String draft, int x, int done) {
        SourceDesk desk = Due.lifted(draft);
        Due.is("walk(" + x + ", 400) of " + draft, desk.walk(x, 400) >= 0, true);
        Due.is("STATEMENTS done", desk.count(4), done);
        Due.is("walk(" + x + ", " + done + ") of " + draft, desk.walk(x, done) >= 0, true);
        if (done > 0) {
            Due.is("one less", desk.walk(x, done - 1), SourceDesk.STOPPED);
            Due.is("STATEMENTS done", desk.count(4), done - 1);
        }
    }

    private static void walkAnswers() {
        Due.sentence("Answers how many values it printed, which are the OUTPUT");
        SourceDesk desk = Due.lifted("@a{#a;a=(a-1);}");
        for (int x : new int[] {0, 1, 19, 20, 21, 132, 133}) {
            Due.is("walk(" + x + ", 400)", desk.walk(x, 400), x);
            Due.is("count(3)", desk.count(3), x);
            Due.is("output(0)", desk.output(0), x);
        }
        Due.is("walk(0, 1)", desk.walk(0, 1), 0);
        Due.is("nothing is left of the longer one", desk.output(0), 0);
    }

    private static void walkStops() {
        Due.sentence("STOPPED if one more would have been done.");
        SourceDesk desk = Due.lifted("#1;@a{#2;a=0;}#3;");
        String[] outputs = {"", "1", "1", "1 2", "1 2", "1 2", "1 2 3", "1 2 3"};
        for (int limit = 0; limit < outputs.length; limit++) {
            Due.is("walk(1, " + limit + ")", desk.walk(1, limit), limit < 6 ? SourceDesk.STOPPED : 3);
            Due.is("its OUTPUT", Due.outputOf(desk), outputs[limit]);
            Due.is("STATEMENTS done", desk.count(4), Math.min(limit, 6));
        }
        desk = Due.lifted("#1;@a{a=(a-1);}");
        Due.is("just 400", desk.walk(199, 400), 1);
        desk = Due.lifted("#1;#1;@a{a=(a-1);}");
        Due.is("one more than 400", desk.walk(199, 400), SourceDesk.STOPPED);
        Due.is("STATEMENTS done", desk.count(4), 400);
        Due.is("VARIABLE 0", desk.count(10), 0);
    }

    private static void walkRefuses() {
        Due.sentence("REFUSED for another limit, and the OUTPUT stays");
        SourceDesk desk = Due.deskWith("PUSH 8, STORE 2, LOAD 2, PRINT");
        desk.lift();
        desk.run(3, 400);
        for (int limit : WRONG_LIMITS) {
            Due.is("walk(1, " + limit + ")", desk.walk(1, limit), SourceDesk.REFUSED);
            staysOfTheRun(desk);
            Due.is("a limit not as said without TREE", new SourceDesk().walk(1, limit), SourceDesk.REFUSED);
        }
        Due.is("the TREE stays too", desk.walk(1, 2), 1);
    }

    private static void walkWithoutTree() {
        Due.sentence("NONE if there is no TREE, likewise.");
        Due.is("of a new object", new SourceDesk().walk(0, 0), SourceDesk.NONE);
        SourceDesk desk = Due.deskWith("PUSH 8, STORE 2, LOAD 2, PRINT");
        desk.run(3, 400);
        for (int limit : new int[] {0, 1, 400}) {
            Due.is("walk(1, " + limit + ") without lift", desk.walk(1, limit), SourceDesk.NONE);
            staysOfTheRun(desk);
        }
        desk.lift();
        desk.put(8, 0);
        desk.lift();
        Due.is("behind a KNOTTED lift", desk.walk(1, 400), SourceDesk.NONE);
        staysOfTheRun(desk);
        desk.put(0, 0);
        desk.lift();
        Due.is("behind a WRONG lift", desk.walk(1, 400), SourceDesk.NONE);
        staysOfTheRun(desk);
        desk.clear(0);
        desk.lift();
        Due.is("the empty TREE is one", desk.walk(1, 0), 0);
        Due.is("its OUTPUT is empty", desk.output(0), 0);
    }

    private static void outputOfTheFirstAndTheLast() {
        Due.sentence("Value k (0 the first) of the OUTPUT");
        SourceDesk desk = Due.deskWith("LOAD 0, PRINT");
        for (int x : new int[] {LEAST, -1, 0, 1, MOST}) {
            desk.run(x, 400);
            Due.is("output(0)", desk.output(0), x);
            Due.is("output(1)", desk.output(1), 0);
        }
        desk = Due.deskWith("PUSH 1, PRINT, PUSH 2, PRINT, PUSH 3, PRINT");
        desk.run(0, 400);
        Due.is("output(0)", desk.output(0), 1);
        Due.is("output(2)", desk.output(2), 3);
    }

    /** Prints x, x + 1, .. without end. */
    private static SourceDesk counting() {
        return Due.lifted("@1{#a;a=(a+1);}");
    }

    private static void outputKeepsTwenty() {
        Due.sentence("the first 20 are kept");
        SourceDesk desk = counting();
        for (int round = 0; round < 2; round++) {
            Due.is("without end", round == 0 ? desk.run(5, 400) : desk.walk(5, 400), SourceDesk.STOPPED);
            for (int k = 0; k < 20; k++) {
                Due.is("output(" + k + ")", desk.output(k), 5 + k);
            }
            Due.is("output(20)", desk.output(20), 0);
            Due.is("output(21)", desk.output(21), 0);
        }
        desk = Due.lifted("@a{#a;a=(a-1);}");
        for (int x = 19; x <= 22; x++) {
            desk.walk(x, 400);
            Due.is("output(18) of " + x, desk.output(18), x - 18);
            Due.is("output(19) of " + x, desk.output(19), x - 19);
            Due.is("output(20) of " + x, desk.output(20), 0);
        }
    }

    private static void outputBeforeAStop() {
        Due.sentence("also those before a run was STOPPED");
        SourceDesk desk = counting();
        Due.is("walk(7, 1)", desk.walk(7, 1), SourceDesk.STOPPED);
        Due.is("output(0)", desk.output(0), 0);
        Due.is("walk(7, 2)", desk.walk(7, 2), SourceDesk.STOPPED);
        Due.is("output(0)", desk.output(0), 7);
        Due.is("output(1)", desk.output(1), 0);
        Due.is("run(7, 3)", desk.run(7, 3), SourceDesk.STOPPED);
        Due.is("output(0)", desk.output(0), 0);
        Due.is("run(7, 4)", desk.run(7, 4), SourceDesk.STOPPED);
        Due.is("output(0)", desk.output(0), 7);
        Due.is("output(1)", desk.output(1), 0);
        Due.is("run(7, 0)", desk.run(7, 0), SourceDesk.STOPPED);
        Due.is("output(0)", desk.output(0), 0);
    }

    private static void outputWhereNoneIs() {
        Due.sentence("0 if there is none.");
        Due.is("of a new object", new SourceDesk().output(0), 0);
        SourceDesk desk = counting();
        desk.run(5, 400);
        for (int k : new int[] {LEAST, -21, -20, -1, 20, 21, 56, MOST}) {
            Due.is("output(" + k + ")", desk.output(k), 0);
        }
        desk.run(5, 10);
        Due.is("output(0) of a shorter run", desk.output(0), 5);
        for (int k = 1; k <= 20; k++) {
            Due.is("output(" + k + ") of a shorter run", desk.output(k), 0);
        }
        desk.clear(0);
        desk.run(5, 0);
        Due.is("output(0) of empty CODE", desk.output(0), 0);
    }

    private static void countsOfRows() {
        Due.sentence("What 0: INSTRUCTIONS; 1: characters of the DRAFT, 2: of the TEXT");
        SourceDesk desk = new SourceDesk();
        for (int i = 1; i <= 31; i++) {
            desk.put(i % 2 == 1 ? 0 : 10, 99);
            Due.is("count(0)", desk.count(0), Math.min(i, 30));
        }
        for (int i = 1; i <= 121; i++) {
            desk.letter(126);
            Due.is("count(1)", desk.count(1), Math.min(i, 120));
        }
        Due.is("count(2)", desk.count(2), 0);
        desk.lift();
        Due.is("count(2)", desk.count(2), 60);
        desk.copy();
        Due.is("count(1)", desk.count(1), 60);
        desk.clear(0);
        desk.clear(1);
        Due.is("count(0)", desk.count(0), 0);
        Due.is("count(1)", desk.count(1), 0);
        Due.is("count(2)", desk.count(2), 60);
        desk.lift();
        Due.is("count(2)", desk.count(2), 0);
    }

    private static void countsOfRuns() {
        Due.sentence("3: values printed in the latest run or walk; 4: INSTRUCTIONS or STATEMENTS done in it");
        SourceDesk desk = Due.lifted("@a{#a;a=(a-1);}");
        int[][] calls = {{0, 400, 0, 2, 0, 1}, {0, 0, 0, 0, 0, 0}, {1, 400, 1, 11, 1, 4}, {21, 400, 21, 191, 21, 64},
            {44, 400, 44, 398, 44, 133}, {45, 400, 45, 400, 45, 136}, {400, 400, 45, 400, 133, 400}};
        for (int[] call : calls) {
            desk.run(call[0], call[1]);
            Due.is("count(3) of run(" + call[0] + ", " + call[1] + ")", desk.count(3), call[2]);
            Due.is("count(4) of run(" + call[0] + ", " + call[1] + ")", desk.count(4), call[3]);
            desk.walk(call[0], call[1]);
            Due.is("count(3) of walk(" + call[0] + ", " + call[1] + ")", desk.count(3), call[4]);
            Due.is("count(4) of walk(" + call[0] + ", " + call[1] + ")", desk.count(4), call[5]);
        }
    }

    private static void treeCounts(String draft, int all, int whiles, int ifs, int choices) {
        SourceDesk desk = Due.lifted(draft);
        Due.is("count(5) of " + draft, desk.count(5), all);
        Due.is("count(6) of " + draft, desk.count(6), whiles);
        Due.is("count(7) of " + draft, desk.count(7), ifs);
        Due.is("count(8) of " + draft, desk.count(8), choices);
    }

    private static void countsOfTheTree() {
        Due.sentence("5: STATEMENTS of the TREE (0 without one; those in others too), 6: how many of these are WHILES, "
            + "7: IFS, 8: CHOICES");
        treeCounts("", 0, 0, 0, 0);
        treeCounts("#1;", 1, 0, 0, 0);
        treeCounts("@a{}", 1, 1, 0, 0);
        treeCounts("?a{}", 1, 0, 1, 0);
        treeCounts("?a{}:{}", 1, 0, 0, 1);
        treeCounts("?a{}:{?b{@c{#1;}}}#1;", 5, 1, 1, 1);
        treeCounts("#1;".repeat(15), 15, 0, 0, 0);
        treeCounts("@a{}".repeat(10), 10, 10, 0, 0);
        treeCounts("?a{}".repeat(15), 15, 0, 15, 0);
        treeCounts("?a{}:{}".repeat(10), 10, 0, 0, 10);
        SourceDesk desk = Due.lifted("@a{?b{}:{}}?c{}");
        desk.clear(0);
        Due.is("count(5) stays behind clear(0)", desk.count(5), 3);
        desk.put(8, 0);
        desk.lift();
        for (int what = 5; what <= 9; what++) {
            Due.is("count(" + what + ") without TREE", desk.count(what), 0);
        }
    }

    private static void howDeepTheyLie() {
        Due.sentence("9: how deep they lie (0 without STATEMENTS, else 1, and 1 more for those in others)");
        String[] drafts = {"", "#1;", "?a{}", "?a{#1;}", "@a{#1;}", "?a{#1;}:{}", "?a{}:{#1;}",
            "?a{?b{#1;}}#2;", "#2;?a{#1;}:{@b{}}", "?a{".repeat(6) + "}".repeat(6)};
        int[] deep = {0, 1, 1, 2, 2, 2, 2, 3, 2, 6};
        for (int i = 0; i < drafts.length; i++) {
            Due.is("count(9) of " + drafts[i], Due.lifted(drafts[i]).count(9), deep[i]);
        }
        SourceDesk desk = Due.deskWith("PUSH 1, UNLESS 30" + ", PUSH 1, UNLESS 30".repeat(14));
        desk.lift();
        Due.is("count(9) of the deepest", desk.count(9), 15);
        Due.load(desk, "PUSH 1, PRINT");
        desk.lift();
        Due.is("count(9) of a flat one behind it", desk.count(9), 1);
    }

    private static void countsOfVariables() {
        Due.sentence("10 + v: VARIABLE v (0 to 5) behind the latest run or walk.");
        SourceDesk desk = Due.lifted("b=1;c=2;d=3;e=4;f=5;");
        for (int v = 0; v <= 5; v++) {
            Due.is("VARIABLE " + v + " before any run", desk.count(10 + v), 0);
        }
        desk.run(LEAST, 400);
        Due.is("VARIABLE 0 behind run", desk.count(10), LEAST);
        for (int v = 1; v <= 5; v++) {
            Due.is("VARIABLE " + v + " behind run", desk.count(10 + v), v);
        }
        desk.walk(MOST, 4);
        Due.is("VARIABLE 0 behind walk", desk.count(10), MOST);
        for (int v = 1; v <= 5; v++) {
            Due.is("VARIABLE " + v + " behind a walk that was STOPPED", desk.count(10 + v), v == 5 ? 0 : v);
        }
    }

    private static void countRefuses() {
        Due.sentence("REFUSED for others.");
        SourceDesk desk = Due.lifted("@a{#a;a=(a-1);}");
        desk.run(3, 400);
        for (int what : new int[] {LEAST, LEAST + 9, LEAST + 10, LEAST + 15, -2, -1, 16, 17, 256, MOST}) {
            Due.is("count(" + what + ")", desk.count(what), SourceDesk.REFUSED);
            Due.is("count(" + what + ") of a new object", new SourceDesk().count(what), SourceDesk.REFUSED);
        }
    }

    private static void theLastCalls() {
        Due.sentence("An object is used for at most 512 calls after it has been made");
        SourceDesk desk = new SourceDesk();
        for (char c : "@1{#a;a=(a+1);}".toCharArray()) {
            desk.letter(c);
        }
        int calls = 15;
        for (; calls < 507; calls += 4) {
            Due.is("read()", desk.read(), 9);
            Due.is("lift()", desk.lift(), 15);
            Due.is("run(0, 400)", desk.run(0, 400), SourceDesk.STOPPED);
            Due.is("walk(0, 400)", desk.walk(0, 400), SourceDesk.STOPPED);
        }
        Due.is("calls so far", calls, 507);
        Due.is("call 508", desk.read(), 9);
        Due.is("call 509", desk.lift(), 15);
        Due.is("call 510", desk.walk(3, 400), SourceDesk.STOPPED);
        Due.is("call 511", desk.output(19), 22);
        Due.is("call 512", desk.text(14), '}');
    }
}
