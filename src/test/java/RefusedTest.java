import java.util.function.Supplier;
import java.util.function.ToIntFunction;

/** A call that is refused, or that only asks, changes nothing that can be looked at. */
public final class RefusedTest {
    private static final int LEAST = Integer.MIN_VALUE;
    private static final int MOST = Integer.MAX_VALUE;
    private static final int[] OUTSIDE = {LEAST, -1, 401, MOST};

    private RefusedTest() {
    }

    public static void main(String[] args) {
        numbersNotAsSaid();
        placesWhereNoneIs();
        rowsThatAreFull();
        walksWithoutTree();
        draftsAtFault();
        questions();
        Due.end();
    }

    /** A desk of which each thing is another one: CODE, DRAFT, TREE and OUTPUT do not belong together. */
    private static SourceDesk busy() {
        SourceDesk desk = Due.lifted("@a{#a;a=(a-1);}");
        desk.run(3, 400);
        Due.load(desk, "LOAD 5, PRINT, JUMP 30");
        Due.write(desk, "#1;#22;x");
        desk.read();
        Due.write(desk, "b=7;#b;");
        return desk;
    }

    /** A desk whose rows are full, and which has no TREE. */
    private static SourceDesk full() {
        SourceDesk desk = Due.deskWith("PUSH 9, PRINT, JUMP 5" + ", PUSH 1, PRINT, PRINT".repeat(9));
        desk.run(4, 8);
        desk.lift();
        Due.write(desk, "#1;".repeat(40));
        return desk;
    }

    private static String lookedAt(SourceDesk desk) {
        StringBuilder told = new StringBuilder("where " + desk.where() + " verify " + desk.verify() + " counts");
        for (int what = 0; what <= 15; what++) {
            told.append(' ').append(desk.count(what));
        }
        told.append(" heights");
        int many = desk.count(0);
        for (int p = 0; p <= many; p++) {
            told.append(' ').append(desk.code(p, 2));
        }
        told.append(" values");
        for (int k = 0; k < 20; k++) {
            told.append(' ').append(desk.output(k));
        }
        return told + " text " + Due.textOf(desk) + " code " + Due.codeOf(desk);
    }

    /** What can be looked at only by calls that change something themselves. */
    private static String broughtOut(SourceDesk desk) {
        StringBuilder told = new StringBuilder("walk " + desk.walk(2, 400) + " " + Due.outputOf(desk));
        told.append(" run ").append(desk.run(2, 50)).append(' ').append(Due.outputOf(desk));
        told.append(" read ").append(desk.read()).append(' ').append(desk.where());
        return told + " " + Due.codeOf(desk);
    }

    /** Looks at desks that were made alike, with the call and without: one desk has 512 calls at most. */
    private static void changesNothing(
            String call, Supplier<SourceDesk> made, ToIntFunction<SourceDesk> done, int answer) {
        SourceDesk desk = made.get();
        Due.is(call, done.applyAsInt(desk), answer);
        Due.is("what is there behind " + call, lookedAt(desk), lookedAt(made.get()));
        SourceDesk other = made.get();
        done.applyAsInt(other);
        Due.is("what comes out behind " + call, broughtOut(other), broughtOut(made.get()));
    }

    private static void refuses(String call, ToIntFunction<SourceDesk> done, int answer) {
        changesNothing(call, RefusedTest::busy, done, answer);
        changesNothing(call + " of full rows", RefusedTest::full, done, answer);
    }

    private static void numbersNotAsSaid() {
        int[][] wrong = {{-1, 0}, {11, 0}, {0, -1}, {0, 100}, {1, 6}, {2, 6}, {8, 31}, {9, 31}};
        for (int[] pair : wrong) {
            String told = "(" + pair[0] + ", " + pair[1] + ")";
            refuses("put" + told, desk -> desk.put(pair[0], pair[1]), SourceDesk.REFUSED);
            refuses("change(1, ..) to " + told, desk -> desk.change(1, pair[0], pair[1]) ? 1 : 0, 0);
        }
        for (int number : new int[] {LEAST, -1, 2, 3, MOST}) {
            refuses("clear(" + number + ")", desk -> desk.clear(number), SourceDesk.REFUSED);
        }
        for (int number : new int[] {LEAST, -1, 3, MOST}) {
            refuses("code(0, " + number + ")", desk -> desk.code(0, number), SourceDesk.REFUSED);
        }
        for (int number : new int[] {LEAST, -1, 32, 127, MOST}) {
            refuses("letter(" + number + ")", desk -> desk.letter(number), SourceDesk.REFUSED);
        }
        for (int limit : OUTSIDE) {
            refuses("run(1, " + limit + ")", desk -> desk.run(1, limit), SourceDesk.REFUSED);
            refuses("walk(1, " + limit + ")", desk -> desk.walk(1, limit), SourceDesk.REFUSED);
        }
        for (int number : new int[] {LEAST, -1, 16, MOST}) {
            refuses("count(" + number + ")", desk -> desk.count(number), SourceDesk.REFUSED);
        }
    }

    private static void placesWhereNoneIs() {
        for (int p : new int[] {LEAST, -1, 30, 31, MOST}) {
            refuses("change(" + p + ", 0, 0)", desk -> desk.change(p, 0, 0) ? 1 : 0, 0);
            refuses("code(" + p + ", 0)", desk -> desk.code(p, 0), SourceDesk.NONE);
        }
        for (int k : new int[] {LEAST, -2, 15, 120, MOST}) {
            refuses("text(" + k + ")", desk -> desk.text(k), SourceDesk.NONE);
        }
        for (int k : new int[] {LEAST, -1, 3, 20, MOST}) {
            refuses("output(" + k + ")", desk -> desk.output(k), 0);
        }
    }

    private static void rowsThatAreFull() {
        changesNothing("put if there are 30", RefusedTest::full, desk -> desk.put(0, 1), SourceDesk.FULL);
        changesNothing("letter if there are 120", RefusedTest::full, desk -> desk.letter('a'), SourceDesk.FULL);
    }

    private static void walksWithoutTree() {
        for (int limit : new int[] {0, 1, 400}) {
            changesNothing("walk(1, " + limit + ")", RefusedTest::full, desk -> desk.walk(1, limit), SourceDesk.NONE);
        }
    }

    private static SourceDesk readAtFault(SourceDesk desk) {
        desk.letter('}');
        desk.read();
        return desk;
    }

    /** A read that fails changes nothing but where, which is the same behind the second one. */
    private static void draftsAtFault() {
        changesNothing("read of a } too many", () -> readAtFault(busy()), SourceDesk::read, SourceDesk.FAULT);
        changesNothing("read of too much", () -> readAtFault(full()), SourceDesk::read, SourceDesk.FAULT);
    }

    private static void questions() {
        asks("verify()", SourceDesk::verify, 2);
        asks("where()", SourceDesk::where, 7);
        asks("code(0, 1)", desk -> desk.code(0, 1), 5);
        asks("text(0)", desk -> desk.text(0), '@');
        asks("text(-1)", desk -> desk.text(-1), 15);
        asks("output(0)", desk -> desk.output(0), 3);
        asks("count(3)", desk -> desk.count(3), 3);
        asks("count(10)", desk -> desk.count(10), 0);
    }

    private static void asks(String call, ToIntFunction<SourceDesk> done, int answer) {
        changesNothing(call, RefusedTest::busy, done, answer);
    }
}
