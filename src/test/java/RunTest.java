/** Promises 13 to 16: run, walk, output, count. */
public final class RunTest {
    private static final int LEAST = Integer.MIN_VALUE;
    private static final int MOST = Integer.MAX_VALUE;

    private RunTest() {
    }

    public static void main(String[] args) {
        opsCompute();
        jumpsGo();
        emptyStack();
        fullStack();
        runLimits();
        runRefuses();
        eachRunBeginsAnew();
        walkComputes();
        walkCounts();
        walkLimits();
        walkRefuses();
        outputTells();
        countsOfTheTree();
        countsOfTheRest();
        Due.end();
    }

    private static void prints(String code, int x, String values) {
        SourceDesk desk = Due.deskWith(code);
        int many = values.isEmpty() ? 0 : values.split(" ").length;
        Due.is("run(" + x + ") of " + code, desk.run(x, 400), many);
        Due.is("output of " + code, Due.outputOf(desk), values);
    }

    private static void opsCompute() {
        prints("PUSH 0, PRINT, PUSH 99, PRINT", 5, "0 99");
        prints("LOAD 0, PRINT, LOAD 1, PRINT, LOAD 5, PRINT", -7, "-7 0 0");
        prints("PUSH 4, STORE 3, LOAD 3, PRINT, LOAD 2, PRINT", 0, "4 0");
        prints("PUSH 4, STORE 0, LOAD 0, PRINT", 9, "4");
        prints("LOAD 0, PUSH 3, ADD, PRINT, LOAD 0, PUSH 3, SUB, PRINT, LOAD 0, PUSH 3, MUL, PRINT", 10, "13 7 30");
        prints("LOAD 0, PUSH 3, LESS, PRINT, PUSH 3, LOAD 0, LESS, PRINT", 2, "1 0");
        prints("LOAD 0, PUSH 3, LESS, PRINT, PUSH 3, LOAD 0, LESS, PRINT", 3, "0 0");
        prints("LOAD 0, PUSH 3, LESS, PRINT, PUSH 3, LOAD 0, LESS, PRINT", MOST, "0 1");
        prints("LOAD 0, PUSH 3, LESS, PRINT", LEAST, "1");
        prints("LOAD 0, NOT, PRINT, LOAD 0, NOT, NOT, PRINT", 0, "1 0");
        prints("LOAD 0, NOT, PRINT, LOAD 0, NOT, NOT, PRINT", -3, "0 1");
        prints("LOAD 0, PUSH 1, ADD, PRINT", MOST, String.valueOf(LEAST));
        prints("LOAD 0, PUSH 1, SUB, PRINT", LEAST, String.valueOf(MOST));
        prints("LOAD 0, LOAD 0, MUL, PRINT", 65537, "131073");
        prints("", 3, "");
    }

    private static void jumpsGo() {
        prints("JUMP 3, PUSH 1, PRINT, PUSH 2, PRINT", 0, "2");
        prints("JUMP 30, PUSH 1, PRINT", 0, "");
        prints("JUMP 3, PUSH 1, PRINT", 0, "");
        prints("LOAD 0, UNLESS 4, PUSH 1, PRINT, PUSH 2, PRINT", 0, "2");
        prints("LOAD 0, UNLESS 4, PUSH 1, PRINT, PUSH 2, PRINT", -1, "1 2");
        prints("LOAD 0, UNLESS 30, PUSH 1, PRINT", 0, "");
        prints("LOAD 0, PRINT, LOAD 0, PUSH 1, SUB, STORE 0, LOAD 0, NOT, UNLESS 0", 3, "3 2 1");
    }

    private static void emptyStack() {
        prints("PRINT", 5, "0");
        prints("NOT, PRINT", 5, "1");
        prints("ADD, PRINT", 5, "0");
        prints("LESS, PRINT", 5, "0");
        prints("LOAD 0, SUB, PRINT", 5, "-5");
        prints("LOAD 0, ADD, PRINT", 5, "5");
        prints("LOAD 0, MUL, PRINT", 5, "0");
        prints("LOAD 0, LESS, PRINT", 5, "1");
        prints("STORE 0, LOAD 0, PRINT", 5, "0");
        prints("UNLESS 3, PUSH 1, PRINT, PUSH 2, PRINT", 5, "2");
        prints("LOAD 0, PRINT, PRINT", 5, "5 0");
        prints("PUSH 1, PUSH 2, JUMP 4, PRINT, PRINT, PRINT, PRINT", 5, "2 1 0");
    }

    private static void fullStack() {
        StringBuilder code = new StringBuilder();
        for (int i = 1; i <= 18; i++) {
            code.append(i == 1 ? "" : ", ").append("PUSH ").append(i);
        }
        prints(code + ", PRINT, PRINT", 0, "16 15");
        prints(code + ", LOAD 0, PRINT", 77, "16");
        prints(code + ", NOT, PRINT, PRINT", 77, "0 15");
        prints(code + ", ADD, PRINT, PRINT", 77, "31 14");
        prints(code + ", PRINT, PUSH 50, PUSH 51, PRINT, PRINT", 77, "16 50 15");
        SourceDesk desk = Due.deskWith(code + ", PRINT, JUMP 18");
        Due.is("prints without end", desk.run(0, 400), SourceDesk.STOPPED);
        Due.is("sixteen were there", Due.outputOf(desk), "16 15 14 13 12 11 10 9 8 7 6 5 4 3 2 1 0 0 0 0");
    }

    private static void runLimits() {
        SourceDesk desk = Due.deskWith("PUSH 1, PRINT, PUSH 2, PRINT");
        int[] answers = {-7, -7, -7, -7, 2, 2};
        int[] printed = {0, 0, 1, 1, 2, 2};
        int[] done = {0, 1, 2, 3, 4, 4};
        for (int limit = 0; limit < answers.length; limit++) {
            Due.is("run(0, " + limit + ")", desk.run(0, limit), answers[limit]);
            Due.is("printed", desk.count(3), printed[limit]);
            Due.is("done", desk.count(4), done[limit]);
        }
        Due.load(desk, "JUMP 0");
        Due.is("run without end", desk.run(0, 400), SourceDesk.STOPPED);
        Due.is("done", desk.count(4), 400);
        desk.clear(0);
        Due.is("empty code", desk.run(0, 0), 0);
        // 7 x + 2 INSTRUCTIONS are done for x.
        Due.load(desk, "LOAD 0, UNLESS 7, LOAD 0, PUSH 1, SUB, STORE 0, JUMP 0");
        Due.is("run(56, 394)", desk.run(56, 394), 0);
        Due.is("done", desk.count(4), 394);
        Due.is("run(56, 393)", desk.run(56, 393), SourceDesk.STOPPED);
        Due.is("the variable so far", desk.count(10), 0);
        Due.is("run(57, 400)", desk.run(57, 400), SourceDesk.STOPPED);
        Due.is("the variable so far", desk.count(10), 0);
    }

    private static void runRefuses() {
        SourceDesk desk = Due.deskWith("PUSH 8, STORE 2, LOAD 2, PRINT");
        desk.run(3, 400);
        for (int limit : new int[] {-1, 401, MOST, LEAST}) {
            Due.is("run(1, " + limit + ")", desk.run(1, limit), SourceDesk.REFUSED);
            Due.is("output stays", desk.output(0), 8);
            Due.is("printed stays", desk.count(3), 1);
            Due.is("done stays", desk.count(4), 4);
            Due.is("variable 0 stays", desk.count(10), 3);
            Due.is("variable 2 stays", desk.count(12), 8);
        }
    }

    private static void eachRunBeginsAnew() {
        SourceDesk desk = Due.deskWith("LOAD 1, PRINT, PUSH 5, STORE 1, PUSH 3, PUSH 4");
        for (int i = 0; i < 3; i++) {
            Due.is("run", desk.run(i, 400), 1);
            Due.is("variable 1 was 0", desk.output(0), 0);
            Due.is("variable 0", desk.count(10), i);
            Due.is("variable 1", desk.count(11), 5);
        }
        Due.load(desk, "PRINT");
        desk.run(0, 400);
        Due.is("the stack was empty", desk.output(0), 0);
        desk.clear(0);
        desk.run(9, 0);
        Due.is("output is empty", desk.output(0), 0);
        Due.is("variable 0", desk.count(10), 9);
        Due.is("variable 1", desk.count(11), 0);
        Due.load(desk, "JUMP 0");
        desk.run(9, 7);
        desk.clear(0);
        desk.lift();
        desk.walk(4, 0);
        Due.is("done by walk", desk.count(4), 0);
        Due.is("variable 0 by walk", desk.count(10), 4);
    }

    private static SourceDesk lifted(String draft) {
        SourceDesk desk = Due.deskWithDraft(draft);
        if (desk.read() < 0 || desk.lift() < 0) {
            throw new IllegalArgumentException(draft);
        }
        desk.clear(0);
        desk.clear(1);
        return desk;
    }

    private static void walks(String draft, int x, String values, int done) {
        SourceDesk desk = lifted(draft);
        int many = values.isEmpty() ? 0 : values.split(" ").length;
        Due.is("walk(" + x + ") of " + draft, desk.walk(x, 400), many);
        Due.is("output of " + draft, Due.outputOf(desk), values);
        Due.is("done of " + draft, desk.count(4), done);
        Due.is("just so many of " + draft, desk.walk(x, done), many);
        if (done > 0) {
            Due.is("one less of " + draft, desk.walk(x, done - 1), SourceDesk.STOPPED);
            Due.is("done of " + draft, desk.count(4), done - 1);
        }
    }

    private static void walkComputes() {
        walks("", 3, "", 0);
        walks("#a;#b;", 3, "3 0", 2);
        walks("#(a-1);#(1-a);#(a*a);#(a+a);#(a<3);#(a<4);", 3, "2 -2 9 6 0 1", 6);
        walks("#!a;#!!a;#!b;", 3, "0 1 1", 3);
        walks("#(a+1);", MOST, String.valueOf(LEAST), 1);
        walks("#(a*a);", 65537, "131073", 1);
        walks("f=7;#f;f=(f*f);#f;", 0, "7 49", 4);
        walks("?a{#1;}#2;", 0, "2", 2);
        walks("?a{#1;}#2;", -1, "1 2", 3);
        walks("?a{#1;}:{#3;}#2;", 0, "3 2", 3);
        walks("?a{#1;}:{#3;}#2;", 5, "1 2", 3);
        walks("@a{#a;a=(a-1);}#9;", 3, "3 2 1 9", 11);
        walks("@a{#a;a=(a-1);}#9;", 0, "9", 2);
        walks("#a;".repeat(15), 8, "8" + " 8".repeat(14), 15);
        walks("b=2;@b{c=2;@c{#(b+c);c=(c-1);}b=(b-1);}", 0, "4 3 3 2", 22);
    }

    private static void walkCounts() {
        walks("@a{a=0;}", 1, "", 3);
        walks("?a{}", 1, "", 1);
        walks("?a{}:{}", 0, "", 1);
        walks("?a{?a{?a{#a;}}}", 1, "1", 4);
        walks("?a{?a{?a{#a;}}}", 0, "", 1);
        walks("?a{@a{a=(a-1);}}:{#8;}", 2, "", 6);
    }

    private static void walkLimits() {
        SourceDesk desk = lifted("@1{}");
        Due.is("walk without end", desk.walk(0, 400), SourceDesk.STOPPED);
        Due.is("done", desk.count(4), 400);
        desk = lifted("@1{#a;a=(a+1);}");
        Due.is("walk without end", desk.walk(0, 400), SourceDesk.STOPPED);
        Due.is("printed", desk.count(3), 133);
        Due.is("variable", desk.count(10), 133);
        Due.is("the first 20 are kept", Due.outputOf(desk), "0 1 2 3 4 5 6 7 8 9 10 11 12 13 14 15 16 17 18 19");
        Due.is("walk(0, 0)", desk.walk(0, 0), SourceDesk.STOPPED);
        Due.is("the output is empty", desk.output(0), 0);
        Due.is("printed", desk.count(3), 0);
        Due.is("walk(0, 2)", desk.walk(6, 2), SourceDesk.STOPPED);
        Due.is("what was printed before", desk.output(0), 6);
        desk = lifted("@a{#1;#(2+a);a=(a-1);}");
        Due.is("many rounds", desk.walk(40, 400), 80);
        Due.is("done", desk.count(4), 161);
        Due.is("values", Due.outputOf(desk), "1 42 1 41 1 40 1 39 1 38 1 37 1 36 1 35 1 34 1 33");
        Due.is("variable", desk.count(10), 0);
        desk = lifted("@a{a=(a-1);}");
        Due.is("199 rounds, 399 done", desk.walk(199, 400), 0);
        Due.is("done", desk.count(4), 399);
        Due.is("200 rounds", desk.walk(200, 400), SourceDesk.STOPPED);
        Due.is("done", desk.count(4), 400);
    }

    private static void walkRefuses() {
        SourceDesk desk = new SourceDesk();
        Due.is("no tree", desk.walk(0, 400), SourceDesk.NONE);
        Due.is("a wrong limit is told first", desk.walk(0, 401), SourceDesk.REFUSED);
        Due.load(desk, "PUSH 8, STORE 2, LOAD 2, PRINT");
        desk.run(3, 400);
        Due.is("code alone is no tree", desk.walk(0, 400), SourceDesk.NONE);
        Due.is("output stays", desk.output(0), 8);
        Due.is("printed stays", desk.count(3), 1);
        Due.is("done stays", desk.count(4), 4);
        Due.is("variable 0 stays", desk.count(10), 3);
        desk.lift();
        for (int limit : new int[] {-1, 401, MOST, LEAST}) {
            Due.is("walk(1, " + limit + ")", desk.walk(1, limit), SourceDesk.REFUSED);
            Due.is("output stays", desk.output(0), 8);
            Due.is("done stays", desk.count(4), 4);
            Due.is("variable 0 stays", desk.count(10), 3);
        }
        Due.is("walk(1, 400)", desk.walk(1, 400), 1);
        Due.is("done", desk.count(4), 2);
        Due.write(desk, "#1;");
        desk.read();
        Due.is("read makes no tree and leaves it", desk.walk(1, 400), 1);
        Due.is("output", desk.output(0), 8);
        desk.put(10, 0);
        desk.lift();
        Due.is("a lift that fails leaves none", desk.walk(1, 400), SourceDesk.NONE);
        Due.is("output stays", desk.output(0), 8);
    }

    private static void outputTells() {
        SourceDesk desk = Due.deskWith("LOAD 0, PRINT, LOAD 0, PUSH 1, ADD, STORE 0, JUMP 0");
        Due.is("run(5, 400)", desk.run(5, 400), SourceDesk.STOPPED);
        Due.is("all are counted", desk.count(3), 57);
        for (int k = 0; k < 20; k++) {
            Due.is("output(" + k + ")", desk.output(k), 5 + k);
        }
        for (int k : new int[] {20, 21, 56, -1, -2, MOST, LEAST}) {
            Due.is("output(" + k + ")", desk.output(k), 0);
        }
        Due.is("run(5, 2)", desk.run(5, 2), SourceDesk.STOPPED);
        Due.is("output(0)", desk.output(0), 5);
        Due.is("nothing is left of the longer run", desk.output(1), 0);
        Due.load(desk, "LOAD 0, PRINT, LOAD 0, PUSH 1, SUB, STORE 0, LOAD 0, NOT, UNLESS 0");
        Due.is("21 values", desk.run(21, 400), 21);
        Due.is("output(19)", desk.output(19), 2);
        Due.is("output(20)", desk.output(20), 0);
    }

    private static void treeCounts(String draft, int all, int whiles, int ifs, int choices, int deep) {
        SourceDesk desk = lifted(draft);
        Due.is("statements of " + draft, desk.count(5), all);
        Due.is("whiles of " + draft, desk.count(6), whiles);
        Due.is("ifs of " + draft, desk.count(7), ifs);
        Due.is("choices of " + draft, desk.count(8), choices);
        Due.is("depth of " + draft, desk.count(9), deep);
    }

    private static void countsOfTheTree() {
        treeCounts("", 0, 0, 0, 0, 0);
        treeCounts("#1;", 1, 0, 0, 0, 1);
        treeCounts("a=1;#1;", 2, 0, 0, 0, 1);
        treeCounts("@a{}", 1, 1, 0, 0, 1);
        treeCounts("?a{}", 1, 0, 1, 0, 1);
        treeCounts("?a{}:{}", 1, 0, 0, 1, 1);
        treeCounts("?a{#1;}:{}", 2, 0, 0, 1, 2);
        treeCounts("?a{}:{#1;}", 2, 0, 0, 1, 2);
        treeCounts("?a{}:{?b{@c{#1;}}}#1;", 5, 1, 1, 1, 4);
        treeCounts("@a{@b{}}?a{}?b{#1;}", 5, 2, 2, 0, 2);
    }

    private static void countsOfTheRest() {
        SourceDesk desk = Due.deskWith("PUSH 1, STORE 1, PUSH 2, STORE 2, PUSH 3, STORE 3, PUSH 4, STORE 4, PUSH 5, STORE 5");
        Due.write(desk, "#1;#2;#3;");
        desk.lift();
        desk.run(-6, 400);
        Due.is("instructions", desk.count(0), 10);
        Due.is("characters of the draft", desk.count(1), 9);
        Due.is("characters of the text", desk.count(2), 20);
        Due.is("printed", desk.count(3), 0);
        Due.is("done", desk.count(4), 10);
        Due.is("variable 0", desk.count(10), -6);
        for (int v = 1; v < 6; v++) {
            Due.is("variable " + v, desk.count(10 + v), v);
        }
        for (int what : new int[] {-1, 16, 17, MOST, LEAST, LEAST + 10}) {
            Due.is("count(" + what + ")", desk.count(what), SourceDesk.REFUSED);
        }
        desk.walk(7, 3);
        Due.is("done by walk", desk.count(4), 3);
        Due.is("variable 0 by walk", desk.count(10), 7);
        Due.is("variable 3 by walk", desk.count(13), 3);
        Due.is("variable 4 by walk", desk.count(14), 0);
    }
}
