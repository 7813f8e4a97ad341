/** The boundary cases of promises 7 to 9 and of THE TREE and THE TEXT, a method for each sentence. */
public final class LiftEdgesTest {
    private static final int LEAST = Integer.MIN_VALUE;
    private static final int MOST = Integer.MAX_VALUE;

    private LiftEdgesTest() {
    }

    public static void main(String[] args) {
        emptyTrees();
        shortestAndLongestExpressions();
        longestRowOfStatements();
        jumpsAreKnots();
        unlessThatGoesNotOn();
        unlessThatGoesBeyond();
        shortestAndLongestWhile();
        shortestAndLongestChoice();
        edgesOfTheOtherPart();
        shortestAndLongestIf();
        deepestTree();
        theFirstKnotCounts();
        numbersByTheirDigits();
        lettersOfVariables();
        liftTellsHowMany();
        wrongBeforeKnotted();
        nothingIsLeftOfAFailedLift();
        textOfTheFirstAndTheLast();
        textTellsHowMany();
        textWhereNoneIs();
        placesWhereItWasWrong();
        placesWhereItWasKnotted();
        whereOfTheLatest();
        whereOfNone();
        Due.end();
    }

    private static void fails(String code, int answer, int place) {
        SourceDesk desk = Due.deskWith(code);
        Due.is("lift() of " + code, desk.lift(), answer);
        Due.is("where() of " + code, desk.where(), place);
    }

    private static void knottedAt(String code, int place) {
        fails(code, SourceDesk.KNOTTED, place);
    }

    private static void emptyTrees() {
        Due.sentence("if p is q it is empty.");
        Due.lifts("", "");
        Due.lifts("LOAD 0, UNLESS 2", "?a{}");
        Due.lifts("LOAD 0, UNLESS 3, JUMP 0", "@a{}");
        Due.lifts("LOAD 0, UNLESS 3, JUMP 3", "?a{}:{}");
        Due.lifts("LOAD 0, UNLESS 3, JUMP 5, LOAD 2, PRINT", "?a{}:{#c;}");
        Due.lifts("LOAD 0, UNLESS 5, LOAD 1, PRINT, JUMP 5", "?a{#b;}:{}");
        SourceDesk desk = new SourceDesk();
        desk.lift();
        Due.is("walk(0, 0) of the empty TREE", desk.walk(0, 0), 0);
        for (int what = 5; what <= 9; what++) {
            Due.is("count(" + what + ") of it", desk.count(what), 0);
        }
    }

    private static void shortestAndLongestExpressions() {
        Due.sentence("Else the INSTRUCTIONS from p on up to the first STORE, PRINT, UNLESS or JUMP, at PLACE u, "
            + "make an EXPRESSION (none for JUMP).");
        Due.lifts("PUSH 1, PRINT", "#1;");
        Due.lifts("PUSH 1" + ", NOT".repeat(28) + ", PRINT", "#" + "!".repeat(28) + "1;");
        Due.lifts("PUSH 99, PUSH 99, ADD" + ", PUSH 99, ADD".repeat(13) + ", PRINT",
            "#" + "(".repeat(14) + "99" + "+99)".repeat(14) + ";");
        Due.lifts("LOAD 0, LOAD 1, LOAD 2, LOAD 3, LOAD 4, LOAD 5, PUSH 6, PUSH 7" + ", SUB".repeat(7) + ", STORE 5",
            "f=(a-(b-(c-(d-(e-(f-(6-7)))))));");
        // Each NOT is a part by itself, be it the left or the right one.
        Due.lifts("LOAD 0, NOT, LOAD 1, NOT, NOT, MUL, LOAD 2, LOAD 3, LESS, NOT, LESS, PRINT", "#((!a*!!b)<!(c<d));");
        knottedAt("JUMP 0", 0);
    }

    private static void longestRowOfStatements() {
        Due.sentence("STORE and PRINT are STATEMENTS with it, and the TREE of u + 1 to q follows.");
        Due.lifts("PUSH 1, STORE 0", "a=1;");
        Due.lifts("PUSH 1, PRINT" + ", PUSH 1, PRINT".repeat(14), "#1;".repeat(15));
        Due.lifts("PUSH 1, STORE 5" + ", PUSH 1, STORE 5".repeat(14), "f=1;".repeat(15));
    }

    private static void jumpsAreKnots() {
        Due.sentence("A JUMP makes the CODE KNOTTED at u.");
        knottedAt("JUMP 0", 0);
        knottedAt("JUMP 1", 0);
        knottedAt("PUSH 1, PRINT, JUMP 0", 2);
        knottedAt("PUSH 1, PRINT, JUMP 3", 2);
        knottedAt("PUSH 1, PRINT, ".repeat(14) + "JUMP 29", 28);
        knottedAt("PUSH 1, PRINT, ".repeat(14) + "JUMP 0, JUMP 30", 28);
        knottedAt("JUMP 29" + ", PUSH 1, PRINT".repeat(14), 0);
        // Just behind an UNLESS that goes to it, a JUMP is no end of a part.
        knottedAt("LOAD 0, UNLESS 2, JUMP 0", 2);
        knottedAt("LOAD 0, UNLESS 2, JUMP 3", 2);
    }

    private static void unlessThatGoesNotOn() {
        Due.sentence("UNLESS t: if t is not above u, or above q, the CODE is KNOTTED at u.");
        knottedAt("PUSH 1, UNLESS 0", 1);
        knottedAt("PUSH 1, PRINT, PUSH 1, UNLESS 0", 3);
        knottedAt("PUSH 1, PRINT, PUSH 1, UNLESS 2", 3);
        knottedAt("PUSH 1, PRINT, PUSH 1, UNLESS 0, JUMP 0", 3);
        // There is an EXPRESSION before u, so a t that is u is WRONG.
        fails("PUSH 1, UNLESS 1", SourceDesk.WRONG, 1);
        Due.lifts("PUSH 1, UNLESS 2", "?1{}");
        Due.lifts("PUSH 1, UNLESS 2, PUSH 2, PRINT", "?1{}#2;");
    }

    private static void unlessThatGoesBeyond() {
        Due.sentence("if t is not above u, or above q, the CODE is KNOTTED at u.");
        Due.lifts("LOAD 0, UNLESS 6, LOAD 1, UNLESS 6, LOAD 2, PRINT", "?a{?b{#c;}}");
        knottedAt("LOAD 0, UNLESS 6, LOAD 1, UNLESS 8, LOAD 2, PRINT, LOAD 3, PRINT", 3);
        Due.lifts("LOAD 0, UNLESS 5, LOAD 1, UNLESS 4, JUMP 0", "@a{?b{}}");
        knottedAt("LOAD 0, UNLESS 5, LOAD 1, UNLESS 5, JUMP 0", 3);
        Due.lifts("LOAD 0, UNLESS 5, LOAD 1, UNLESS 4, JUMP 5", "?a{?b{}}:{}");
        knottedAt("LOAD 0, UNLESS 5, LOAD 1, UNLESS 5, JUMP 5", 3);
        Due.lifts("LOAD 0, UNLESS 3, JUMP 5, LOAD 1, UNLESS 5, LOAD 2, PRINT", "?a{}:{?b{}}#c;");
        knottedAt("LOAD 0, UNLESS 3, JUMP 5, LOAD 1, UNLESS 7, LOAD 2, PRINT", 4);
        Due.lifts("PUSH 1, UNLESS 30" + ", PUSH 1, PRINT".repeat(14), "?1{" + "#1;".repeat(14) + "}");
        fails("PUSH 1, UNLESS 30" + ", PUSH 1, PRINT".repeat(13), SourceDesk.WRONG, 1);
    }

    private static void shortestAndLongestWhile() {
        Due.sentence("if t - 1 is above u and there is a JUMP p at PLACE t - 1: a WHILE with the TREE of u + 1 to t - 1, "
            + "and the TREE of t to q follows.");
        Due.lifts("LOAD 0, UNLESS 3, JUMP 0", "@a{}");
        Due.lifts("LOAD 0, NOT, UNLESS 4, JUMP 0", "@!a{}");
        Due.lifts("LOAD 0, UNLESS 3, JUMP 0, LOAD 1, UNLESS 6, JUMP 3", "@a{}@b{}");
        Due.lifts("PUSH 1, NOT, UNLESS 30, " + "PUSH 1, PRINT, ".repeat(13) + "JUMP 0", "@!1{" + "#1;".repeat(13) + "}");
        // A JUMP to any other PLACE before is none of a WHILE.
        knottedAt("LOAD 2, PRINT, LOAD 0, UNLESS 5, JUMP 0", 4);
        knottedAt("LOAD 0, UNLESS 3, JUMP 2", 2);
        knottedAt("LOAD 0, UNLESS 6, LOAD 1, UNLESS 5, JUMP 0, JUMP 0", 4);
        Due.lifts("LOAD 0, UNLESS 6, LOAD 1, UNLESS 5, JUMP 2, JUMP 0", "@a{@b{}}");
    }

    private static void shortestAndLongestChoice() {
        Due.sentence("If t - 1 is above u and there is a JUMP e at PLACE t - 1 with e from t to q: a CHOICE with the TREES "
            + "of u + 1 to t - 1 and, as the other part, of t to e, and the TREE of e to q follows.");
        Due.lifts("LOAD 0, UNLESS 3, JUMP 3", "?a{}:{}");
        Due.lifts("LOAD 0, UNLESS 3, JUMP 5, LOAD 1, PRINT, LOAD 2, PRINT", "?a{}:{#b;}#c;");
        Due.lifts("PUSH 1, NOT, UNLESS 18, " + "PUSH 1, PRINT, ".repeat(7) + "JUMP 30" + ", PUSH 2, PRINT".repeat(6),
            "?!1{" + "#1;".repeat(7) + "}:{" + "#2;".repeat(6) + "}");
    }

    private static void edgesOfTheOtherPart() {
        Due.sentence("with e from t to q");
        Due.lifts("LOAD 0, UNLESS 5, LOAD 1, PRINT, JUMP 5, LOAD 2, PRINT", "?a{#b;}:{}#c;");
        Due.lifts("LOAD 0, UNLESS 5, LOAD 1, PRINT, JUMP 7, LOAD 2, PRINT", "?a{#b;}:{#c;}");
        knottedAt("LOAD 0, UNLESS 5, LOAD 1, PRINT, JUMP 4, LOAD 2, PRINT", 4);
        knottedAt("LOAD 0, UNLESS 5, LOAD 1, PRINT, JUMP 2, LOAD 2, PRINT", 4);
        // To the end of the part that it lies in, and one beyond.
        Due.lifts("LOAD 0, UNLESS 6, LOAD 1, UNLESS 5, JUMP 5, JUMP 0", "@a{?b{}:{}}");
        knottedAt("LOAD 0, UNLESS 6, LOAD 1, UNLESS 5, JUMP 6, JUMP 0", 4);
        Due.lifts("LOAD 0, UNLESS 8, LOAD 1, UNLESS 5, JUMP 7, LOAD 2, PRINT, JUMP 0", "@a{?b{}:{#c;}}");
        knottedAt("LOAD 0, UNLESS 8, LOAD 1, UNLESS 5, JUMP 8, LOAD 2, PRINT, JUMP 0", 4);
        Due.lifts("LOAD 0, UNLESS 3, JUMP 8, LOAD 1, UNLESS 6, JUMP 8, LOAD 2, PRINT", "?a{}:{?b{}:{#c;}}");
        knottedAt("LOAD 0, UNLESS 3, JUMP 6, LOAD 1, UNLESS 6, JUMP 8, LOAD 2, PRINT", 5);
        // The JUMP behind the inner part is taken for that of the outer one, which comes first.
        knottedAt("LOAD 0, UNLESS 7, LOAD 1, UNLESS 7, LOAD 2, PRINT, JUMP 7", 3);
    }

    private static void shortestAndLongestIf() {
        Due.sentence("Else an IF with the TREE of u + 1 to t, and the TREE of t to q follows.");
        Due.lifts("LOAD 0, UNLESS 2", "?a{}");
        Due.lifts("LOAD 0, UNLESS 2, LOAD 1, UNLESS 4", "?a{}?b{}");
        Due.lifts("LOAD 0, UNLESS 4, LOAD 1, UNLESS 4", "?a{?b{}}");
        Due.lifts("LOAD 0, UNLESS 5, LOAD 1, UNLESS 5, JUMP 2", "?a{@b{}}");
        Due.lifts("PUSH 1, UNLESS 28" + ", PUSH 1, PRINT".repeat(14), "?1{" + "#1;".repeat(13) + "}#1;");
    }

    private static void deepestTree() {
        Due.sentence("That of the PLACES from p to q");
        String ifs = "PUSH 1, UNLESS 30" + ", PUSH 1, UNLESS 30".repeat(14);
        Due.lifts(ifs, "?1{".repeat(15) + "}".repeat(15));
        SourceDesk desk = Due.deskWith(ifs);
        desk.lift();
        Due.is("how deep", desk.count(9), 15);
        Due.is("walk(0, 15)", desk.walk(0, 15), 0);
        Due.is("walk(0, 14)", desk.walk(0, 14), SourceDesk.STOPPED);
        Due.lifts(whiles(10, 30, ""), "@a{".repeat(10) + "}".repeat(10));
        String deep = whiles(9, 29, "PUSH 0, STORE 0, ");
        Due.lifts(deep, "@a{".repeat(9) + "a=0;" + "}".repeat(9));
        desk = Due.deskWith(deep);
        desk.lift();
        Due.is("how deep", desk.count(9), 10);
        Due.is("walk(1, 19)", desk.walk(1, 19), 0);
        Due.is("walk(1, 18)", desk.walk(1, 18), SourceDesk.STOPPED);
    }

    /** So many WHILES, each in the one before, with this inmost part; the CODE has n INSTRUCTIONS. */
    private static String whiles(int many, int n, String inmost) {
        StringBuilder code = new StringBuilder();
        for (int i = 0; i < many; i++) {
            code.append("LOAD 0, UNLESS ").append(n - i).append(", ");
        }
        code.append(inmost);
        for (int i = many - 1; i >= 0; i--) {
            code.append("JUMP ").append(2 * i).append(i == 0 ? "" : ", ");
        }
        return code.toString();
    }

    private static void theFirstKnotCounts() {
        Due.sentence("(TREES are made in the order of the text; the first PLACE at which the CODE is KNOTTED counts.)");
        knottedAt("JUMP 1, JUMP 0", 0);
        knottedAt("LOAD 0, UNLESS 4, JUMP 2, JUMP 4, JUMP 4", 2);
        knottedAt("LOAD 0, UNLESS 3, JUMP 4, JUMP 3, JUMP 4", 3);
        knottedAt("LOAD 0, UNLESS 3, JUMP 3, JUMP 3, JUMP 3", 3);
        knottedAt("LOAD 0, UNLESS 0, JUMP 2", 1);
        knottedAt("LOAD 0, UNLESS 5, LOAD 1, UNLESS 6, JUMP 0, JUMP 5", 3);
    }

    private static void numbersByTheirDigits() {
        Due.sentence("a number by its digits");
        for (int number = 0; number <= 99; number++) {
            Due.lifts("PUSH " + number + ", PRINT", "#" + number + ";");
        }
    }

    private static void lettersOfVariables() {
        Due.sentence("told as letters a to f (97 to 102).");
        for (int v = 0; v <= 5; v++) {
            SourceDesk desk = Due.deskWith("LOAD " + v + ", STORE " + v);
            Due.is("lift()", desk.lift(), 4);
            Due.is("letter of STORE " + v, desk.text(0), 97 + v);
            Due.is("letter of LOAD " + v, desk.text(2), 97 + v);
        }
    }

    private static void liftTellsHowMany() {
        Due.sentence("The TREE of the CODE is made, and written as the TEXT: how many characters.");
        Due.lifts("", "");
        Due.lifts("PUSH 1, PRINT", "#1;");
        StringBuilder code = new StringBuilder();
        for (int i = 1; i <= 10; i++) {
            code.append(i == 1 ? "" : ", ").append("PUSH 99, UNLESS ").append(3 * i).append(", JUMP ").append(3 * i);
        }
        // No CODE has a longer TEXT.
        Due.lifts(code.toString(), "?99{}:{}".repeat(10));
        SourceDesk desk = Due.deskWith(code.toString());
        Due.is("lift()", desk.lift(), 80);
        Due.is("lift() again", desk.lift(), 80);
        desk.clear(0);
        Due.is("lift() of empty CODE", desk.lift(), 0);
    }

    private static void wrongBeforeKnotted() {
        Due.sentence("WRONG if a PLACE is WRONG, else KNOTTED if it is so");
        fails("PRINT", SourceDesk.WRONG, 0);
        fails("PUSH 1", SourceDesk.WRONG, 1);
        fails("JUMP 0", SourceDesk.KNOTTED, 0);
        fails("JUMP 0, PUSH 1", SourceDesk.WRONG, 2);
        fails("JUMP 0, JUMP 3", SourceDesk.WRONG, 1);
        fails("JUMP 0, JUMP 2", SourceDesk.KNOTTED, 0);
        fails("PUSH 1, UNLESS 0, ADD", SourceDesk.WRONG, 2);
        fails("JUMP 0, " + "PUSH 1, PRINT, ".repeat(14) + "PUSH 1", SourceDesk.WRONG, 30);
    }

    private static void nothingIsLeftOfAFailedLift() {
        Due.sentence("then there is no TREE, and the TEXT is empty.");
        for (String code : new String[] {"PUSH 1", "JUMP 0", "LOAD 0, PRINT, JUMP 0"}) {
            SourceDesk desk = Due.deskWith("LOAD 0, UNLESS 6, LOAD 1, UNLESS 5, JUMP 5, JUMP 0, LOAD 2, UNLESS 8");
            Due.is("lift() before", desk.lift(), 15);
            Due.load(desk, code);
            desk.lift();
            Due.is("text(-1) of " + code, desk.text(-1), 0);
            Due.is("text(0) of " + code, desk.text(0), SourceDesk.NONE);
            Due.is("walk(0, 0) of " + code, desk.walk(0, 0), SourceDesk.NONE);
            for (int what : new int[] {2, 5, 6, 7, 8, 9}) {
                Due.is("count(" + what + ") of " + code, desk.count(what), 0);
            }
            Due.load(desk, "PUSH 1, PRINT");
            Due.is("lift() behind it", desk.lift(), 3);
            Due.is("walk(0, 1) behind it", desk.walk(0, 1), 1);
        }
    }

    private static void textOfTheFirstAndTheLast() {
        Due.sentence("Character k (0 the first) of the TEXT");
        SourceDesk desk = Due.deskWith("PUSH 12, STORE 4");
        desk.lift();
        Due.is("text(0)", desk.text(0), 'e');
        Due.is("text(4)", desk.text(4), ';');
        Due.load(desk, "PUSH 1, UNLESS 30" + ", PUSH 1, UNLESS 30".repeat(14));
        desk.lift();
        Due.is("text(0)", desk.text(0), '?');
        Due.is("text(59)", desk.text(59), '}');
    }

    private static void textTellsHowMany() {
        Due.sentence("with k = -1 how many there are");
        SourceDesk desk = new SourceDesk();
        Due.is("text(-1) before any lift", desk.text(-1), 0);
        desk.lift();
        Due.is("text(-1) of the empty TEXT", desk.text(-1), 0);
        Due.load(desk, "PUSH 12, STORE 4");
        Due.is("text(-1) is that of the latest lift", desk.text(-1), 0);
        desk.lift();
        Due.is("text(-1)", desk.text(-1), 5);
        Due.load(desk, "PUSH 1, PRINT");
        desk.lift();
        Due.is("text(-1) of a shorter one", desk.text(-1), 3);
    }

    private static void textWhereNoneIs() {
        Due.sentence("NONE for another k.");
        SourceDesk desk = new SourceDesk();
        for (String code : new String[] {"", "PUSH 12, STORE 4, PUSH 1, PRINT", "PUSH 1, PRINT"}) {
            Due.load(desk, code);
            int many = desk.lift();
            for (int k : new int[] {LEAST, -3, -2, many, many + 1, 90, 120, MOST}) {
                Due.is("text(" + k + ") of " + many, desk.text(k), SourceDesk.NONE);
            }
        }
    }

    private static void placesWhereItWasWrong() {
        Due.sentence("the PLACE at which the CODE was WRONG or KNOTTED");
        fails("NOT", SourceDesk.WRONG, 0);
        fails("PUSH 1", SourceDesk.WRONG, 1);
        fails("PUSH 1" + ", NOT".repeat(28) + ", JUMP 0", SourceDesk.WRONG, 29);
        fails("PUSH 1" + ", NOT".repeat(29), SourceDesk.WRONG, 30);
    }

    private static void placesWhereItWasKnotted() {
        Due.sentence("WRONG or KNOTTED");
        knottedAt("JUMP 0", 0);
        knottedAt("PUSH 1" + ", NOT".repeat(28) + ", UNLESS 0", 29);
        SourceDesk desk = Due.deskWith("PUSH 1, PRINT, JUMP 0");
        desk.lift();
        desk.change(0, 10, 0);
        desk.put(8, 0);
        Due.is("verify()", desk.verify(), 0);
        desk.put(11, 0);
        desk.clear(0);
        desk.copy();
        desk.run(0, 0);
        desk.walk(0, 0);
        Due.is("verify()", desk.verify(), SourceDesk.NONE);
        Due.is("where() behind other calls", desk.where(), 2);
    }

    private static void whereOfTheLatest() {
        Due.sentence("Of the latest call of lift or read, whichever was later");
        SourceDesk desk = Due.deskWith("PUSH 1, UNLESS 0");
        Due.write(desk, "#1;#");
        desk.lift();
        Due.is("behind lift", desk.where(), 1);
        desk.read();
        Due.is("behind read", desk.where(), 4);
        desk.lift();
        Due.is("behind lift again", desk.where(), 1);
        desk.clear(1);
        desk.read();
        Due.is("behind a good read", desk.where(), SourceDesk.NONE);
        desk.letter('#');
        desk.read();
        desk.lift();
        Due.is("behind a good lift", desk.where(), SourceDesk.NONE);
    }

    private static void whereOfNone() {
        Due.sentence("NONE if it was neither, or there was no such call.");
        SourceDesk desk = new SourceDesk();
        Due.is("of a new object", desk.where(), SourceDesk.NONE);
        desk.put(8, 0);
        desk.letter('x');
        desk.verify();
        desk.run(0, 5);
        desk.walk(0, 5);
        desk.copy();
        Due.is("of other calls alone", desk.where(), SourceDesk.NONE);
        Due.is("lift()", desk.lift(), SourceDesk.KNOTTED);
        desk.clear(0);
        Due.is("lift() of empty CODE", desk.lift(), 0);
        Due.is("behind it", desk.where(), SourceDesk.NONE);
    }
}
