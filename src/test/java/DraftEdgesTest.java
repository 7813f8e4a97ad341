/** The boundary cases of promises 9 to 12 and of THE DRAFT, a method for each sentence. */
public final class DraftEdgesTest {
    private static final int LEAST = Integer.MIN_VALUE;
    private static final int MOST = Integer.MAX_VALUE;

    private DraftEdgesTest() {
    }

    public static void main(String[] args) {
        draftHasAtMost120();
        letterTellsHowMany();
        letterRefuses();
        letterIsFull();
        copyTellsHowMany();
        copyHasRoom();
        emptyDraft();
        digitsOfNumbers();
        lettersOfVariables();
        charactersThatDoNotFit();
        draftsThatAreNotWhole();
        expressionsInOthers();
        statementsInOthers();
        tooMuchCode();
        otherFaultsComeFirst();
        codeOfTheWhile();
        codeOfTheIf();
        codeOfTheChoice();
        readTellsHowMany();
        theCodeStays();
        theTreeAndTheTextStay();
        whereTheDraftWasAtFault();
        Due.end();
    }

    private static void draftHasAtMost120() {
        Due.sentence("THE DRAFT is a row of at most 120 characters.");
        for (int many : new int[] {0, 1, 119, 120, 121, 240}) {
            SourceDesk desk = new SourceDesk();
            for (int i = 0; i < many; i++) {
                desk.letter('#');
            }
            Due.is("count(1) behind " + many, desk.count(1), Math.min(many, 120));
        }
        // All 120 are READ, the last one too.
        Due.faults("#1;".repeat(39) + "#1x", 119);
        Due.faults("#1;".repeat(39) + "#1", 119);
    }

    private static void letterTellsHowMany() {
        Due.sentence("A character (33 to 126) comes to the end of the DRAFT: how many there are.");
        SourceDesk desk = new SourceDesk();
        for (int c = 33; c <= 126; c++) {
            Due.is("letter(" + c + ")", desk.letter(c), c - 32);
        }
        desk.clear(1);
        Due.is("letter(33) behind clear(1)", desk.letter(33), 1);
        Due.load(desk, "PUSH 1, PRINT");
        desk.lift();
        desk.copy();
        Due.is("letter(126) behind copy()", desk.letter(126), 4);
        desk.read();
        Due.is("it came to the end", desk.where(), 3);
    }

    private static void letterRefuses() {
        Due.sentence("REFUSED for another number");
        SourceDesk desk = new SourceDesk();
        Due.write(desk, "#1;");
        for (int c : new int[] {LEAST, -97, -1, 0, 10, 32, 127, 128, 255, 256 + 97, 65536 + 97, MOST}) {
            Due.is("letter(" + c + ")", desk.letter(c), SourceDesk.REFUSED);
            Due.is("nothing came", desk.count(1), 3);
        }
        Due.is("read()", desk.read(), 2);
    }

    private static void letterIsFull() {
        Due.sentence("FULL if there are 120.");
        SourceDesk desk = new SourceDesk();
        Due.write(desk, "#".repeat(118));
        Due.is("letter number 119", desk.letter('a'), 119);
        Due.is("letter number 120", desk.letter('a'), 120);
        Due.is("letter number 121", desk.letter('a'), SourceDesk.FULL);
        Due.is("letter(33)", desk.letter(33), SourceDesk.FULL);
        Due.is("letter(126)", desk.letter(126), SourceDesk.FULL);
        Due.is("a number not as said", desk.letter(32), SourceDesk.REFUSED);
        Due.is("a number not as said", desk.letter(127), SourceDesk.REFUSED);
        Due.is("there are 120", desk.count(1), 120);
        Due.is("clear(1)", desk.clear(1), 120);
        Due.is("letter goes again", desk.letter('a'), 1);
    }

    private static void copyTellsHowMany() {
        Due.sentence("The DRAFT becomes the TEXT, as it is: how many characters.");
        SourceDesk desk = new SourceDesk();
        Due.is("copy() of no TEXT", desk.copy(), 0);
        Due.write(desk, "#1;#2;#3;");
        Due.is("copy() of no TEXT", desk.copy(), 0);
        Due.is("the DRAFT is empty", desk.count(1), 0);
        Due.load(desk, "PUSH 7, STORE 1, LOAD 1, PRINT");
        desk.lift();
        Due.write(desk, "#".repeat(120));
        Due.is("copy() onto a full DRAFT", desk.copy(), 7);
        Due.is("nothing is left of it", desk.count(1), 7);
        Due.is("read()", desk.read(), 4);
        Due.is("its CODE", Due.codeOf(desk), "PUSH 7, STORE 1, LOAD 1, PRINT");
        Due.is("the TEXT stays", Due.textOf(desk), "b=7;#b;");
        desk.clear(1);
        Due.is("copy() onto an empty DRAFT", desk.copy(), 7);
        Due.is("copy() again", desk.copy(), 7);
        Due.load(desk, "JUMP 0");
        desk.lift();
        Due.is("copy() behind a lift that failed", desk.copy(), 0);
        Due.is("the DRAFT is empty", desk.count(1), 0);
    }

    private static void copyHasRoom() {
        Due.sentence("FULL if the TEXT has more than 120, and nothing changes.");
        // 30 INSTRUCTIONS have 80 characters at most, so copy is never FULL.
        SourceDesk desk = new SourceDesk();
        for (int i = 1; i <= 10; i++) {
            desk.put(0, 99);
            desk.put(9, 3 * i);
            desk.put(8, 3 * i);
        }
        Due.is("lift() of the longest TEXT", desk.lift(), 80);
        Due.is("copy()", desk.copy(), 80);
        Due.is("count(1)", desk.count(1), 80);
        desk.clear(0);
        Due.is("read()", desk.read(), 30);
        Due.is("lift() again", desk.lift(), 80);
        Due.is("the TEXT", Due.textOf(desk), "?99{}:{}".repeat(10));
    }

    private static void emptyDraft() {
        Due.sentence("It is READ from the first one on, as STATEMENTS up to its end, just as TEXTS are written");
        Due.reads("", "");
        Due.reads("#1;", "PUSH 1, PRINT");
        Due.reads("?a{}", "LOAD 0, UNLESS 2");
        SourceDesk desk = Due.deskWithDraft("#1;");
        desk.clear(1);
        Due.is("read() behind clear(1)", desk.read(), 0);
        desk.letter('#');
        Due.is("read() of another one", desk.read(), SourceDesk.FAULT);
        Due.is("nothing is left of the first", desk.where(), 1);
    }

    private static void digitsOfNumbers() {
        Due.sentence("a number has one or two digits (00 to 09 too).");
        for (int number = 0; number <= 9; number++) {
            Due.reads("#" + number + ";", "PUSH " + number + ", PRINT");
            Due.reads("#0" + number + ";", "PUSH " + number + ", PRINT");
            Due.reads("#9" + number + ";", "PUSH " + (90 + number) + ", PRINT");
        }
        Due.reads("#10;", "PUSH 10, PRINT");
        Due.reads("#(00-09);", "PUSH 0, PUSH 9, SUB, PRINT");
        Due.faults("#;", 1);
        Due.faults("#000;", 3);
        Due.faults("#001;", 3);
        Due.faults("#100;", 3);
        Due.faults("#999;", 3);
        Due.faults("#(100+1);", 4);
        Due.faults("#(1+100);", 6);
        Due.faults("#-1;", 1);
        Due.faults("#/;", 1);
        Due.faults("#:;", 1);
        Due.faults("#1/;", 2);
        Due.faults("#1:;", 2);
    }

    private static void lettersOfVariables() {
        Due.sentence("told as letters a to f (97 to 102).");
        for (int v = 0; v <= 5; v++) {
            char letter = (char) (97 + v);
            Due.reads(letter + "=" + letter + ";", "LOAD " + v + ", STORE " + v);
        }
        for (char c : new char[] {96, 103, 'A', 'F', 'z'}) {
            Due.faults(c + "=1;", 0);
            Due.faults("#" + c + ";", 1);
        }
    }

    private static void charactersThatDoNotFit() {
        Due.sentence("It is at FAULT at the first character that does not fit there");
        for (char c = 33; c <= 126; c++) {
            if ("#?@abcdef".indexOf(c) < 0) {
                Due.faults(c + "#", 0);
                Due.faults("#1;" + c, 3);
            }
            if ("#?@abcdef}".indexOf(c) < 0) {
                Due.faults("@a{" + c, 3);
            }
            if ("!(abcdef0123456789".indexOf(c) < 0) {
                Due.faults("#" + c + ";", 1);
                Due.faults("#!" + c + ";", 2);
                Due.faults("#(" + c + "+a);", 2);
                Due.faults("#(a+" + c + ");", 4);
            }
            if ("+-*<".indexOf(c) < 0) {
                Due.faults("#(a" + c + "b);", 3);
            }
            if (c != '=') {
                Due.faults("a" + c + "1;", 1);
            }
            if (c != ';') {
                Due.faults("#a" + c, 2);
            }
            if (c != ')') {
                Due.faults("#(a+b" + c + ";", 5);
            }
            if (c != '{') {
                Due.faults("?a" + c + "}", 2);
                Due.faults("?a{}:" + c, 5);
            }
        }
        // The first one counts.
        Due.faults("#x;y=1", 1);
        Due.faults("@a{}:{}", 4);
        Due.faults("?a{}:{}:{}", 7);
        Due.faults("#1;}", 3);
    }

    private static void draftsThatAreNotWhole() {
        Due.sentence("or at its end, if it is not whole");
        String draft = "b=(1+!a);@b{?c{#07;}:{d=1;}}#99;";
        int[] whole = {0, 9, 28, 32};
        for (int many = 0; many <= draft.length(); many++) {
            boolean due = false;
            for (int end : whole) {
                due |= end == many;
            }
            if (due) {
                Due.is("read() of the first " + many, Due.deskWithDraft(draft.substring(0, many)).read() >= 0, true);
            } else {
                Due.faults(draft.substring(0, many), many);
            }
        }
        // An IF is whole before a : comes, and no more behind it.
        Due.reads("?a{}", "LOAD 0, UNLESS 2");
        Due.faults("?a{}:", 5);
        Due.faults("?a{}:{", 6);
        Due.reads("?a{}:{}", "LOAD 0, UNLESS 3, JUMP 3");
        Due.faults("#1;".repeat(39) + "b=1", 120);
        Due.faults("#1;".repeat(39) + "?a{", 120);
    }

    private static void expressionsInOthers() {
        Due.sentence("also at the character at which an EXPRESSION begins that lies in 8 others");
        Due.reads("#!!!!!!!a;", "LOAD 0" + ", NOT".repeat(7) + ", PRINT");
        Due.faults("#!!!!!!!!a;", 9);
        Due.faults("#!!!!!!!!!a;", 9);
        Due.faults("#!!!!!!!!;", 9);
        Due.faults("#!!!!!!!!", 9);
        Due.reads("#!!!!!!!99;", "PUSH 99" + ", NOT".repeat(7) + ", PRINT");
        Due.faults("#!!!!!!!!99;", 9);
        Due.reads("#(((((((1+2)+3)+4)+5)+6)+7)+8);",
            "PUSH 1, PUSH 2, ADD, PUSH 3, ADD, PUSH 4, ADD, PUSH 5, ADD, PUSH 6, ADD, PUSH 7, ADD, PUSH 8, ADD, PRINT");
        Due.faults("#((((((((1+2)+3)+4)+5)+6)+7)+8)+9);", 9);
        Due.reads("#(a-(b-(c-(d-(e-(f-(6-7)))))));",
            "LOAD 0, LOAD 1, LOAD 2, LOAD 3, LOAD 4, LOAD 5, PUSH 6, PUSH 7" + ", SUB".repeat(7) + ", PRINT");
        Due.faults("#(a-(b-(c-(d-(e-(f-(6-(7-8))))))));", 23);
        Due.faults("#(a-(b-(c-(d-(e-(f-(6-!7)))))));", 23);
        Due.reads("#!!!!!!(a+b);", "LOAD 0, LOAD 1, ADD" + ", NOT".repeat(6) + ", PRINT");
        Due.faults("#!!!!!!!(a+b);", 9);
        Due.faults("#!!!!!!(a+!b);", 11);
        // The EXPRESSIONS of each kind of STATEMENT, wherever it lies.
        Due.reads("b=!!!!!!!a;", "LOAD 0" + ", NOT".repeat(7) + ", STORE 1");
        Due.faults("b=!!!!!!!!a;", 10);
        Due.reads("@!!!!!!!a{}", "LOAD 0" + ", NOT".repeat(7) + ", UNLESS 10, JUMP 0");
        Due.faults("@!!!!!!!!a{}", 9);
        Due.reads("?!!!!!!!a{}", "LOAD 0" + ", NOT".repeat(7) + ", UNLESS 9");
        Due.faults("?!!!!!!!!a{}", 9);
        Due.reads("?!!!!!!!a{#!!!!!!!b;}",
            "LOAD 0" + ", NOT".repeat(7) + ", UNLESS 18, LOAD 1" + ", NOT".repeat(7) + ", PRINT");
        Due.faults("?!!!!!!!a{#!!!!!!!!b;}", 19);
    }

    private static void statementsInOthers() {
        Due.sentence("or a STATEMENT that lies in 6 others");
        String ifs = "LOAD 0, UNLESS 12, ".repeat(5);
        Due.reads("?a{".repeat(5) + "#1;" + "}".repeat(5), ifs + "PUSH 1, PRINT");
        Due.reads("?a{".repeat(6) + "}".repeat(6), ifs + "LOAD 0, UNLESS 12");
        for (String statement : new String[] {"#1;", "b=1;", "?a{}", "@a{}", "?a{}:{}", "#", "x", ""}) {
            Due.faults("?a{".repeat(6) + statement + (statement.isEmpty() ? "" : "}".repeat(6)), 18);
            Due.faults("@a{".repeat(6) + statement + (statement.isEmpty() ? "" : "}".repeat(6)), 18);
            Due.faults("?a{}:{".repeat(6) + statement + (statement.isEmpty() ? "" : "}".repeat(6)), 36);
        }
        Due.reads("@a{".repeat(6) + "}".repeat(6), "LOAD 0, UNLESS 18, LOAD 0, UNLESS 17, LOAD 0, UNLESS 16, LOAD 0, UNLESS 15, "
            + "LOAD 0, UNLESS 14, LOAD 0, UNLESS 13, JUMP 10, JUMP 8, JUMP 6, JUMP 4, JUMP 2, JUMP 0");
        Due.reads("?a{}:{".repeat(6) + "}".repeat(6), "LOAD 0, UNLESS 3, JUMP 18, LOAD 0, UNLESS 6, JUMP 18, LOAD 0, UNLESS 9, "
            + "JUMP 18, LOAD 0, UNLESS 12, JUMP 18, LOAD 0, UNLESS 15, JUMP 18, LOAD 0, UNLESS 18, JUMP 18");
        Due.faults("?a{".repeat(5) + "?a{}:{#1;}" + "}".repeat(5), 21);
        Due.faults("?a{".repeat(5) + "?a{#1;}:{}" + "}".repeat(5), 18);
        Due.faults("?a{".repeat(5) + "#1;?a{#1;}" + "}".repeat(5), 21);
        // Those that follow one another do not lie in one another.
        Due.reads("?a{}".repeat(7), "LOAD 0, UNLESS 2, LOAD 0, UNLESS 4, LOAD 0, UNLESS 6, LOAD 0, UNLESS 8, "
            + "LOAD 0, UNLESS 10, LOAD 0, UNLESS 12, LOAD 0, UNLESS 14");
    }

    private static void tooMuchCode() {
        Due.sentence("at its end, if its CODE would have more than 30 INSTRUCTIONS.");
        Due.reads("#1;".repeat(15), "PUSH 1, PRINT, ".repeat(14) + "PUSH 1, PRINT");
        Due.faults("#1;".repeat(14) + "#!1;", 46);
        Due.faults("#!1;" + "#1;".repeat(14), 46);
        Due.faults("#1;".repeat(16), 48);
        Due.faults("#1;".repeat(40), 120);
        Due.reads("?a{" + "#1;".repeat(14) + "}", "LOAD 0, UNLESS 30" + ", PUSH 1, PRINT".repeat(14));
        Due.faults("@a{" + "#1;".repeat(14) + "}", 46);
        Due.faults("?a{" + "#1;".repeat(14) + "}:{}", 49);
        Due.faults("?a{}:{" + "#1;".repeat(14) + "}", 49);
        Due.faults("@a{}".repeat(30), 120);
        Due.faults("?a{}:{}".repeat(17), 119);
        Due.faults("#!!!!!!!a;".repeat(12), 120);
        SourceDesk desk = Due.deskWithDraft("@a{}".repeat(30));
        desk.read();
        Due.write(desk, "@b{}");
        Due.is("a short DRAFT behind a long one", desk.read(), 3);
        Due.is("its CODE", Due.codeOf(desk), "LOAD 1, UNLESS 3, JUMP 0");
    }

    private static void otherFaultsComeFirst() {
        Due.sentence("or, if all that is not so");
        Due.faults("#1;".repeat(20) + "x#1;", 60);
        Due.faults("#1;".repeat(20) + "#", 61);
        Due.faults("#1;".repeat(20) + "?a{".repeat(7), 78);
        Due.faults("#1;".repeat(20) + "#!!!!!!!!a;#1;", 69);
        Due.faults("#1;".repeat(39) + "#1}", 119);
    }

    private static void codeOfTheWhile() {
        Due.sentence("WHILE: the EXPRESSION, UNLESS to behind all of it, the CODE of the part, a JUMP to the beginning of it");
        Due.reads("@a{}", "LOAD 0, UNLESS 3, JUMP 0");
        Due.reads("#1;@!a{}", "PUSH 1, PRINT, LOAD 0, NOT, UNLESS 6, JUMP 2");
        Due.reads("@!1{" + "#1;".repeat(13) + "}", "PUSH 1, NOT, UNLESS 30, " + "PUSH 1, PRINT, ".repeat(13) + "JUMP 0");
    }

    private static void codeOfTheIf() {
        Due.sentence("IF: the EXPRESSION, UNLESS to behind all of it, the CODE of the part");
        Due.reads("?a{}", "LOAD 0, UNLESS 2");
        Due.reads("#1;?!a{}", "PUSH 1, PRINT, LOAD 0, NOT, UNLESS 5");
        Due.reads("#1;".repeat(14) + "?a{}", "PUSH 1, PRINT, ".repeat(14) + "LOAD 0, UNLESS 30");
    }

    private static void codeOfTheChoice() {
        Due.sentence("CHOICE: the EXPRESSION, UNLESS to the CODE of the other part, the CODE of the part, "
            + "a JUMP to behind all of it, the CODE of the other part.");
        Due.reads("?a{}:{}", "LOAD 0, UNLESS 3, JUMP 3");
        Due.reads("?a{}:{#1;}", "LOAD 0, UNLESS 3, JUMP 5, PUSH 1, PRINT");
        Due.reads("?a{#1;}:{}", "LOAD 0, UNLESS 5, PUSH 1, PRINT, JUMP 5");
        Due.reads("?!a{" + "#1;".repeat(13) + "}:{}", "LOAD 0, NOT, UNLESS 30, " + "PUSH 1, PRINT, ".repeat(13) + "JUMP 30");
        // It is READ, but its CODE does not lift: the JUMP is taken for one of the outer IF.
        SourceDesk desk = Due.deskWithDraft("?a{?b{#c;}:{}}");
        Due.is("read()", desk.read(), 7);
        Due.is("its CODE", Due.codeOf(desk), "LOAD 0, UNLESS 7, LOAD 1, UNLESS 7, LOAD 2, PRINT, JUMP 7");
        Due.is("lift()", desk.lift(), SourceDesk.KNOTTED);
        Due.is("where()", desk.where(), 3);
    }

    private static void readTellsHowMany() {
        Due.sentence("The DRAFT, which stays, is READ: the CODE becomes its CODE: how many INSTRUCTIONS.");
        SourceDesk desk = Due.deskWith("PUSH 1, PRINT" + ", PUSH 1, PRINT".repeat(14));
        Due.is("read() of the empty DRAFT", desk.read(), 0);
        Due.is("the CODE is empty", desk.count(0), 0);
        Due.is("so is its HEIGHT", desk.code(0, 2), 0);
        Due.write(desk, "#1;");
        Due.is("read()", desk.read(), 2);
        Due.is("read() again", desk.read(), 2);
        Due.is("the DRAFT stays", desk.count(1), 3);
        Due.write(desk, "#1;".repeat(15));
        Due.is("read() of 30", desk.read(), 30);
        Due.is("the CODE is full", desk.put(0, 0), SourceDesk.FULL);
        Due.is("HEIGHT before PLACE 30", desk.code(30, 2), 0);
        Due.load(desk, "PUSH 1, PUSH 1, PUSH 1");
        Due.write(desk, "#1;");
        desk.read();
        Due.is("nothing is left of the HEIGHTS before", desk.code(2, 2), 0);
        Due.write(desk, "#2;");
        Due.is("read() of a short one", desk.read(), 2);
        Due.is("nothing is left of the 30", desk.code(2, 0), SourceDesk.NONE);
    }

    private static void theCodeStays() {
        Due.sentence("FAULT if it is so; then the CODE stays.");
        for (String draft : new String[] {"}", "#", "#1;".repeat(16), "?a{".repeat(7), "#1;#2;#3;x"}) {
            SourceDesk desk = Due.deskWith("JUMP 30, ADD, PUSH 5");
            Due.write(desk, draft);
            Due.is("read() of " + draft, desk.read(), SourceDesk.FAULT);
            Due.is("the CODE stays", Due.codeOf(desk), "JUMP 30, ADD, PUSH 5");
            Due.is("its HEIGHTS stay", desk.code(3, 2), 0);
            desk.clear(0);
            Due.is("read() again", desk.read(), SourceDesk.FAULT);
            Due.is("the empty CODE stays", desk.count(0), 0);
        }
    }

    private static void theTreeAndTheTextStay() {
        Due.sentence("(The TREE and the TEXT stay in both cases.)");
        for (String draft : new String[] {"", "#1;", "#1;x"}) {
            SourceDesk desk = Due.deskWith("LOAD 0, UNLESS 4, PUSH 9, PRINT");
            desk.lift();
            Due.write(desk, draft);
            desk.read();
            Due.is("the TEXT behind " + draft, Due.textOf(desk), "?a{#9;}");
            Due.is("the TREE behind " + draft, desk.count(5), 2);
            Due.is("walk(1, 2) behind " + draft, desk.walk(1, 2), 1);
            Due.is("its value", desk.output(0), 9);
            SourceDesk bare = Due.deskWithDraft(draft);
            bare.read();
            Due.is("no TREE comes by " + draft, bare.walk(1, 2), SourceDesk.NONE);
            Due.is("no TEXT comes by " + draft, bare.text(-1), 0);
        }
    }

    private static void whereTheDraftWasAtFault() {
        Due.sentence("or the number of the character (from 0; that of all characters for the end) at which the DRAFT was at FAULT");
        Due.faults("}", 0);
        Due.faults("#", 1);
        Due.faults("#1;x", 3);
        Due.faults("#1;".repeat(39) + "#1x", 119);
        Due.faults("#1;".repeat(40), 120);
        SourceDesk desk = Due.deskWithDraft("#1");
        desk.read();
        Due.is("where()", desk.where(), 2);
        desk.letter(';');
        Due.is("where() stays", desk.where(), 2);
        desk.clear(1);
        Due.is("where() stays", desk.where(), 2);
        desk.read();
        Due.is("where() behind a good read", desk.where(), SourceDesk.NONE);
    }
}
