/** Promises 13 to 16: run, walk, output, count; RunEdgesTest has their edges. */
public final class RunTest {
    private static final int LEAST = Integer.MIN_VALUE;
    private static final int MOST = Integer.MAX_VALUE;

    private RunTest() {
    }

    public static void main(String[] args) {
        opsCompute();
        jumpsGo();
        eachRunBeginsAnew();
        walkComputes();
        walkLimits();
        countsOfTheTree();
        countsOfTheRest();
        Due.end();
    }

    private static void opsCompute() {
        Due.prints("PUSH 0, PRINT, PUSH 99, PRINT", 5, "0 99");
        Due.prints("LOAD 0, PRINT, LOAD 1, PRINT, LOAD 5, PRINT", -7, "-7 0 0");
        Due.prints("PUSH 4, STORE 3, LOAD 3, PRINT, LOAD 2, PRINT", 0, "4 0");
        Due.prints("PUSH 4, STORE 0, LOAD 0, PRINT", 9, "4");
        Due.prints("LOAD 0, PUSH 3, ADD, PRINT, LOAD 0, PUSH 3, SUB, PRINT, LOAD 0, PUSH 3, MUL, PRINT", 10, "13 7 30");
        Due.prints("LOAD 0, PUSH 3, LESS, PRINT, PUSH 3, LOAD 0, LESS, PRINT", 2, "1 0");
        Due.prints("LOAD 0, PUSH 3, LESS, PRINT, PUSH 3, LOAD 0, LESS, PRINT", 3, "0 0");
        Due.prints("LOAD 0, PUSH 3, LESS, PRINT, PUSH 3, LOAD 0, LESS, PRINT", MOST, "0 1");
        Due.prints("LOAD 0, PUSH 3, LESS, PRINT", LEAST, "1");
        Due.prints("LOAD 0, NOT, PRINT, LOAD 0, NOT, NOT, PRINT", 0, "1 0");
        Due.prints("LOAD 0, NOT, PRINT, LOAD 0, NOT, NOT, PRINT", -3, "0 1");
        Due.prints("LOAD 0, PUSH 1, ADD, PRINT", MOST, String.valueOf(LEAST));
        Due.prints("LOAD 0, PUSH 1, SUB, PRINT", LEAST, String.valueOf(MOST));
        Due.prints("LOAD 0, LOAD 0, MUL, PRINT", 65537, "131073");
        Due.prints("", 3, "");
    }

    private static void jumpsGo() {
        Due.prints("JUMP 3, PUSH 1, PRINT, PUSH 2, PRINT", 0, "2");
        Due.prints("JUMP 30, PUSH 1, PRINT", 0, "");
        Due.prints("JUMP 3, PUSH 1, PRINT", 0, "");
        Due.prints("LOAD 0, UNLESS 4, PUSH 1, PRINT, PUSH 2, PRINT", 0, "2");
        Due.prints("LOAD 0, UNLESS 4, PUSH 1, PRINT, PUSH 2, PRINT", -1, "1 2");
        Due.prints("LOAD 0, UNLESS 30, PUSH 1, PRINT", 0, "");
        Due.prints("LOAD 0, PRINT, LOAD 0, PUSH 1, SUB, STORE 0, LOAD 0, NOT, UNLESS 0", 3, "3 2 1");
    }

    private static void eachRunBeginsAnew() {
        SourceDesk desk = Due.deskWith("LOAD 1, PRINT, PUSH 5, STORE 1, PUSH 3, PUSH 4");
        for (int i = 0; i < 3; i++) {
            Due.is("run", desk.run(i, 400), 1);
            Due.is("variable 1 was 0", desk.output(0), 0);
            Due.is("variable 0", desk.count(10), i);
            Due.is("variable 1", desk.count(11), 5);
        }
        Due.load(desk, "PRINT");
        desk.run(0, 400);
        Due.is("the stack was empty", desk.output(0), 0);
        desk.clear(0);
        desk.run(9, 0);
        Due.is("output is empty", desk.output(0), 0);
        Due.is("variable 0", desk.count(10), 9);
        Due.is("variable 1", desk.count(11), 0);
        Due.load(desk, "JUMP 0");
        desk.run(9, 7);
        desk.clear(0);
        desk.lift();
        desk.walk(4, 0);
        Due.is("done by walk", desk.count(4), 0);
        Due.is("variable 0 by walk", desk.count(10), 4);
    }

    /** A desk with nothing but the TREE of a DRAFT. */
    private static SourceDesk treeOf(String draft) {
        SourceDesk desk = Due.lifted(draft);
        desk.clear(0);
        desk.clear(1);
        return desk;
    }

    private static void walks(String draft, int x, String values, int done) {
        SourceDesk desk = treeOf(draft);
        int many = values.isEmpty() ? 0 : values.split(" ").length;
        Due.is("walk(" + x + ") of " + draft, desk.walk(x, 400), many);
        Due.is("output of " + draft, Due.outputOf(desk), values);
        Due.is("done of " + draft, desk.count(4), done);
        Due.is("just so many of " + draft, desk.walk(x, done), many);
        if (done > 0) {
            Due.is("one less of " + draft, desk.walk(x, done - 1), SourceDesk.STOPPED);
            Due.is("done of " + draft, desk.count(4), done - 1);
        }
    }

    private static void walkComputes() {
        walks("", 3, "", 0);
        walks("#a;#b;", 3, "3 0", 2);
        walks("#(a-1);#(1-a);#(a*a);#(a+a);#(a<3);#(a<4);", 3, "2 -2 9 6 0 1", 6);
        walks("#!a;#!!a;#!b;", 3, "0 1 1", 3);
        walks("#(a+1);", MOST, String.valueOf(LEAST), 1);
        walks("#(a*a);", 65537, "131073", 1);
        walks("f=7;#f;f=(f*f);#f;", 0, "7 49", 4);
        walks("?a{#1;}#2;", 0, "2", 2);
        walks("?a{#1;}#2;", -1, "1 2", 3);
        walks("?a{#1;}:{#3;}#2;", 0, "3 2", 3);
        walks("?a{#1;}:{#3;}#2;", 5, "1 2", 3);
        walks("@a{#a;a=(a-1);}#9;", 3, "3 2 1 9", 11);
        walks("@a{#a;a=(a-1);}#9;", 0, "9", 2);
        walks("#a;".repeat(15), 8, "8" + " 8".repeat(14), 15);
        walks("b=2;@b{c=2;@c{#(b+c);c=(c-1);}b=(b-1);}", 0, "4 3 3 2", 22);
    }

    private static void walkLimits() {
        SourceDesk desk = treeOf("@1{}");
        Due.is("walk without end", desk.walk(0, 400), SourceDesk.STOPPED);
        Due.is("done", desk.count(4), 400);
        desk = treeOf("@1{#a;a=(a+1);}");
        Due.is("walk without end", desk.walk(0, 400), SourceDesk.STOPPED);
        Due.is("printed", desk.count(3), 133);
        Due.is("variable", desk.count(10), 133);
        Due.is("the first 20 are kept", Due.outputOf(desk), "0 1 2 3 4 5 6 7 8 9 10 11 12 13 14 15 16 17 18 19");
        Due.is("walk(0, 0)", desk.walk(0, 0), SourceDesk.STOPPED);
        Due.is("the output is empty", desk.output(0), 0);
        Due.is("printed", desk.count(3), 0);
        Due.is("walk(0, 2)", desk.walk(6, 2), SourceDesk.STOPPED);
        Due.is("what was printed before", desk.output(0), 6);
        desk = treeOf("@a{#1;#(2+a);a=(a-1);}");
        Due.is("many rounds", desk.walk(40, 400), 80);
        Due.is("done", desk.count(4), 161);
        Due.is("values", Due.outputOf(desk), "1 42 1 41 1 40 1 39 1 38 1 37 1 36 1 35 1 34 1 33");
        Due.is("variable", desk.count(10), 0);
        desk = treeOf("@a{a=(a-1);}");
        Due.is("199 rounds, 399 done", desk.walk(199, 400), 0);
        Due.is("done", desk.count(4), 399);
        Due.is("200 rounds", desk.walk(200, 400), SourceDesk.STOPPED);
        Due.is("done", desk.count(4), 400);
    }

    private static void treeCounts(String draft, int all, int whiles, int ifs, int choices, int deep) {
        SourceDesk desk = treeOf(draft);
        Due.is("statements of " + draft, desk.count(5), all);
        Due.is("whiles of " + draft, desk.count(6), whiles);
        Due.is("ifs of " + draft, desk.count(7), ifs);
        Due.is("choices of " + draft, desk.count(8), choices);
        Due.is("depth of " + draft, desk.count(9), deep);
    }

    private static void countsOfTheTree() {
        treeCounts("", 0, 0, 0, 0, 0);
        treeCounts("#1;", 1, 0, 0, 0, 1);
        treeCounts("a=1;#1;", 2, 0, 0, 0, 1);
        treeCounts("@a{}", 1, 1, 0, 0, 1);
        treeCounts("?a{}", 1, 0, 1, 0, 1);
        treeCounts("?a{}:{}", 1, 0, 0, 1, 1);
        treeCounts("?a{#1;}:{}", 2, 0, 0, 1, 2);
        treeCounts("?a{}:{#1;}", 2, 0, 0, 1, 2);
        treeCounts("?a{}:{?b{@c{#1;}}}#1;", 5, 1, 1, 1, 4);
        treeCounts("@a{@b{}}?a{}?b{#1;}", 5, 2, 2, 0, 2);
    }

    private static void countsOfTheRest() {
        SourceDesk desk = Due.deskWith("PUSH 1, STORE 1, PUSH 2, STORE 2, PUSH 3, STORE 3, PUSH 4, STORE 4, PUSH 5, STORE 5");
        Due.write(desk, "#1;#2;#3;");
        desk.lift();
        desk.run(-6, 400);
        Due.is("instructions", desk.count(0), 10);
        Due.is("characters of the draft", desk.count(1), 9);
        Due.is("characters of the text", desk.count(2), 20);
        Due.is("printed", desk.count(3), 0);
        Due.is("done", desk.count(4), 10);
        Due.is("variable 0", desk.count(10), -6);
        for (int v = 1; v < 6; v++) {
            Due.is("variable " + v, desk.count(10 + v), v);
        }
        for (int what : new int[] {-1, 16, 17, MOST, LEAST, LEAST + 10}) {
            Due.is("count(" + what + ")", desk.count(what), SourceDesk.REFUSED);
        }
        desk.walk(7, 3);
        Due.is("done by walk", desk.count(4), 3);
        Due.is("variable 0 by walk", desk.count(10), 7);
        Due.is("variable 3 by walk", desk.count(13), 3);
        Due.is("variable 4 by walk", desk.count(14), 0);
    }
}
