/** Promises 7 to 9: lift, text, where (of lift); LiftEdgesTest has their edges. */
public final class LiftTest {
    private LiftTest() {
    }

    public static void main(String[] args) {
        expressions();
        statements();
        branches();
        branchesInBranches();
        knots();
        failedLiftEmpties();
        theTreeIsKept();
        textTells();
        Due.end();
    }

    private static void fails(String code, int answer, int place) {
        SourceDesk desk = Due.deskWith("PUSH 1, PRINT");
        desk.lift();
        Due.load(desk, code);
        Due.is("lift() of " + code, desk.lift(), answer);
        Due.is("where() of " + code, desk.where(), place);
        Due.is("text(-1)", desk.text(-1), 0);
        Due.is("text(0)", desk.text(0), SourceDesk.NONE);
        Due.is("walk", desk.walk(0, 400), SourceDesk.NONE);
        for (int what = 5; what <= 9; what++) {
            Due.is("count(" + what + ") of " + code, desk.count(what), 0);
        }
    }

    private static void knottedAt(String code, int place) {
        fails(code, SourceDesk.KNOTTED, place);
    }

    private static void expressions() {
        Due.lifts("PUSH 0, PRINT", "#0;");
        Due.lifts("PUSH 7, PRINT", "#7;");
        Due.lifts("PUSH 10, PRINT", "#10;");
        Due.lifts("PUSH 99, PRINT", "#99;");
        for (int v = 0; v < 6; v++) {
            Due.lifts("LOAD " + v + ", PRINT", "#" + (char) ('a' + v) + ";");
        }
        Due.lifts("PUSH 1, LOAD 0, ADD, PRINT", "#(1+a);");
        Due.lifts("PUSH 1, LOAD 0, SUB, PRINT", "#(1-a);");
        Due.lifts("PUSH 1, LOAD 0, MUL, PRINT", "#(1*a);");
        Due.lifts("PUSH 1, LOAD 0, LESS, PRINT", "#(1<a);");
        Due.lifts("PUSH 1, NOT, NOT, PRINT", "#!!1;");
        Due.lifts("PUSH 1, PUSH 2, PUSH 3, ADD, SUB, PRINT", "#(1-(2+3));");
        Due.lifts("PUSH 1, PUSH 2, ADD, PUSH 3, SUB, PRINT", "#((1+2)-3);");
        Due.lifts("LOAD 1, NOT, LOAD 2, LOAD 3, LESS, NOT, MUL, NOT, PRINT", "#!(!b*!(c<d));");
        Due.lifts("LOAD 0, LOAD 1, ADD, LOAD 2, LOAD 3, SUB, MUL, LOAD 4, LESS, PRINT", "#(((a+b)*(c-d))<e);");
    }

    private static void statements() {
        Due.lifts("", "");
        for (int v = 0; v < 6; v++) {
            Due.lifts("PUSH 5, STORE " + v, (char) ('a' + v) + "=5;");
        }
        Due.lifts("PUSH 5, STORE 1, LOAD 1, PRINT, PUSH 6, STORE 0", "b=5;#b;a=6;");
    }

    private static void branches() {
        Due.lifts("LOAD 0, UNLESS 2", "?a{}");
        Due.lifts("LOAD 0, UNLESS 4, LOAD 1, PRINT", "?a{#b;}");
        Due.lifts("LOAD 0, UNLESS 4, LOAD 1, PRINT, LOAD 2, PRINT", "?a{#b;}#c;");
        Due.lifts("LOAD 0, UNLESS 3, JUMP 0", "@a{}");
        Due.lifts("LOAD 0, UNLESS 5, LOAD 1, PRINT, JUMP 0", "@a{#b;}");
        Due.lifts("LOAD 2, PRINT, LOAD 0, UNLESS 7, LOAD 1, PRINT, JUMP 2, LOAD 3, PRINT", "#c;@a{#b;}#d;");
        Due.lifts("LOAD 0, UNLESS 3, JUMP 3", "?a{}:{}");
        Due.lifts("LOAD 0, UNLESS 5, LOAD 1, PRINT, JUMP 7, LOAD 2, PRINT, LOAD 3, PRINT", "?a{#b;}:{#c;}#d;");
        Due.lifts("LOAD 0, UNLESS 3, JUMP 5, LOAD 2, PRINT", "?a{}:{#c;}");
        Due.lifts("LOAD 0, UNLESS 5, LOAD 1, PRINT, JUMP 5, LOAD 2, PRINT", "?a{#b;}:{}#c;");
        Due.lifts("LOAD 0, LOAD 1, LESS, NOT, UNLESS 6, JUMP 0", "@!(a<b){}");
    }

    private static void branchesInBranches() {
        Due.lifts("LOAD 0, UNLESS 6, LOAD 1, UNLESS 6, LOAD 2, PRINT", "?a{?b{#c;}}");
        Due.lifts("LOAD 0, UNLESS 5, LOAD 1, UNLESS 5, JUMP 2", "?a{@b{}}");
        Due.lifts("LOAD 0, UNLESS 5, LOAD 1, UNLESS 4, JUMP 0", "@a{?b{}}");
        Due.lifts("LOAD 0, UNLESS 6, LOAD 1, UNLESS 5, JUMP 2, JUMP 0", "@a{@b{}}");
        Due.lifts("LOAD 0, UNLESS 6, LOAD 1, UNLESS 5, JUMP 2, JUMP 6", "?a{@b{}}:{}");
        Due.lifts("LOAD 0, UNLESS 6, LOAD 1, UNLESS 5, JUMP 5, JUMP 0", "@a{?b{}:{}}");
        Due.lifts("LOAD 0, UNLESS 3, JUMP 8, LOAD 1, UNLESS 6, JUMP 8, LOAD 2, PRINT", "?a{}:{?b{}:{#c;}}");
        Due.lifts("LOAD 0, UNLESS 9, LOAD 1, UNLESS 6, LOAD 2, PRINT, LOAD 3, PRINT, JUMP 11, LOAD 4, PRINT, "
            + "LOAD 5, PRINT", "?a{?b{#c;}#d;}:{#e;}#f;");
    }

    private static void knots() {
        knottedAt("JUMP 0", 0);
        knottedAt("JUMP 1", 0);
        knottedAt("PUSH 1, PRINT, JUMP 0", 2);
        knottedAt("PUSH 1, UNLESS 0", 1);
        knottedAt("PUSH 1, PRINT, PUSH 1, UNLESS 2", 3);
        knottedAt("PUSH 1, PRINT, PUSH 1, UNLESS 0, JUMP 0", 3);
        knottedAt("PUSH 1, UNLESS 3, JUMP 0, JUMP 0", 3);
        knottedAt("JUMP 1, JUMP 0", 0);
        // An UNLESS goes beyond the end of the part that it lies in.
        knottedAt("LOAD 0, UNLESS 5, LOAD 1, UNLESS 7, JUMP 0, LOAD 2, PRINT", 3);
        knottedAt("LOAD 0, UNLESS 6, LOAD 1, UNLESS 8, LOAD 2, PRINT, LOAD 3, PRINT", 3);
        // A JUMP at the end of a part goes neither to its beginning nor behind it.
        knottedAt("LOAD 2, PRINT, LOAD 0, UNLESS 5, JUMP 0", 4);
        knottedAt("LOAD 0, UNLESS 3, JUMP 2", 2);
        knottedAt("LOAD 0, UNLESS 6, LOAD 1, UNLESS 5, JUMP 0, JUMP 0", 4);
        // A JUMP just behind an UNLESS that goes to it is no end of a part.
        knottedAt("LOAD 0, UNLESS 2, JUMP 0", 2);
        knottedAt("LOAD 0, UNLESS 2, JUMP 3", 2);
        // In the other part, and behind it all.
        knottedAt("LOAD 0, UNLESS 3, JUMP 4, JUMP 0", 3);
        knottedAt("LOAD 0, UNLESS 3, JUMP 5, LOAD 1, UNLESS 7, LOAD 2, PRINT", 4);
        knottedAt("LOAD 0, UNLESS 3, JUMP 3, JUMP 3", 3);
    }

    private static void failedLiftEmpties() {
        SourceDesk desk = Due.deskWith("PUSH 7, PRINT");
        desk.lift();
        desk.walk(0, 400);
        Due.is("a tree stands", desk.count(5), 1);
        desk.put(8, 0);
        Due.is("lift()", desk.lift(), SourceDesk.KNOTTED);
        Due.is("no text", desk.count(2), 0);
        Due.is("walk", desk.walk(0, 400), SourceDesk.NONE);
        Due.is("output stays", desk.output(0), 7);
        Due.is("copy of the empty text", desk.copy(), 0);
        desk.clear(0);
        Due.is("lift() of empty code", desk.lift(), 0);
        Due.is("an empty tree is run", desk.walk(0, 0), 0);
        Due.is("and prints nothing", desk.output(0), 0);
    }

    private static void theTreeIsKept() {
        SourceDesk desk = Due.deskWith("LOAD 0, PRINT, PUSH 3, PRINT");
        desk.lift();
        desk.change(0, 0, 9);
        desk.put(8, 0);
        desk.verify();
        Due.is("walk behind change", desk.walk(5, 400), 2);
        Due.is("its output", Due.outputOf(desk), "5 3");
        desk.clear(0);
        Due.write(desk, "#8;");
        desk.read();
        Due.is("walk behind read", desk.walk(6, 400), 2);
        Due.is("its output", Due.outputOf(desk), "6 3");
        Due.is("text behind read", Due.textOf(desk), "#a;#3;");
        Due.is("statements behind read", desk.count(5), 2);
        desk.letter('}');
        Due.is("a read at fault", desk.read(), SourceDesk.FAULT);
        Due.is("text behind it", Due.textOf(desk), "#a;#3;");
        Due.is("walk behind it", desk.walk(7, 400), 2);
    }

    private static void textTells() {
        SourceDesk desk = Due.deskWith("PUSH 12, STORE 4");
        desk.lift();
        int[] characters = {'e', '=', '1', '2', ';'};
        for (int k = 0; k < characters.length; k++) {
            Due.is("text(" + k + ")", desk.text(k), characters[k]);
        }
        Due.is("text(-1)", desk.text(-1), 5);
        for (int k : new int[] {5, 6, -2, 200, Integer.MAX_VALUE, Integer.MIN_VALUE}) {
            Due.is("text(" + k + ")", desk.text(k), SourceDesk.NONE);
        }
        Due.load(desk, "PUSH 1, PRINT");
        desk.lift();
        Due.is("a shorter text", desk.text(-1), 3);
        Due.is("nothing is left of the longer one", desk.text(3), SourceDesk.NONE);
        desk.lift();
        Due.is("lift again", Due.textOf(desk), "#1;");
    }
}
