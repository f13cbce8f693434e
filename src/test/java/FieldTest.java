/** Promises 1 to 4: a new object, smudge, cell, cells. */
public final class FieldTest {
    private static void promise1() {
        PenAcres x = new PenAcres();
        for (int what = 0; what <= 3; what++) {
            Check.due("count of a new one", x.count(what), 0);
        }
        for (int what = 0; what <= 4; what++) {
            Check.due("now of a new one", x.now(what), 0);
        }
        for (int what = 0; what <= 2; what++) {
            Check.due("cells of a new one", x.cells(what), 0);
        }
        Check.due("no finding yet", x.status(-1), 0);
        Check.due("no image yet", x.tear(), 0);
        Check.due("nothing to undo", x.undo(), Check.NONE);
        Check.due("the tape is empty", x.wipe(), 0);
        Check.due("no hand", x.of(0, 0), Check.BEYOND);
        for (int s = 0; s < 4; s++) {
            Check.due("sheets are missing", x.write(s, 0, 0), Check.MISSING);
        }
    }

    private static void promise2() {
        PenAcres x = new PenAcres();
        Check.due("smudge first", x.smudge(0, 1), 0);
        Check.due("smudge again", x.smudge(0, 1), 1);
        Check.due("smudge last", x.smudge(47, 1), 0);
        Check.due("both", x.cells(0), Check.set(0, 47));
        Check.due("dry first", x.smudge(0, 0), 1);
        Check.due("dry again", x.smudge(0, 0), 0);
        Check.due("one", x.cells(0), Check.set(47));
        Check.due("cell 48", x.smudge(48, 1), Check.BEYOND);
        Check.due("cell -1", x.smudge(-1, 1), Check.BEYOND);
        Check.due("v 2", x.smudge(3, 2), Check.BEYOND);
        Check.due("v -1", x.smudge(3, -1), Check.BEYOND);
        for (int far : Check.FAR) {
            Check.due("far cell", x.smudge(far, 1), Check.BEYOND);
            Check.due("far v", x.smudge(3, far), Check.BEYOND);
        }
        Check.due("unchanged", x.cells(0), Check.set(47));
        Check.due("counted", x.status(0), 4 + 2 * Check.FAR.length);
    }

    private static void promise3() {
        PenAcres x = Lands.twoRings();
        Check.due("not smudged", x.cell(20, 0), 0);
        Check.due("on the line of 1", x.cell(20, 1), 2);
        Check.due("inside of 0", x.cell(20, 2), 1);
        Check.due("owned by 0", x.cell(20, 3), 0);
        Check.due("on no line", x.cell(28, 1), 0);
        Check.due("inside of both", x.cell(28, 2), 3);
        Check.due("equal ink: the least", x.cell(28, 3), 0);
        Check.due("inside of 1 alone", x.cell(37, 3), 1);
        Check.due("nobody's", x.cell(0, 3), -1);
        Check.due("a line is nobody's", x.cell(9, 3), -1);
        x.set(1, 2, 31);
        Check.due("most ink", x.cell(28, 3), 1);
        x.set(1, 2, 13);
        Check.due("inside, though it does not write", x.cell(28, 2), 3);
        Check.due("owned by the one that writes", x.cell(28, 3), 0);
        Check.due("owned by nobody now", x.cell(37, 3), -1);
        x.set(1, 2, 14);
        Check.due("ink as much as cost writes", x.cell(37, 3), 1);
        x.smudge(20, 1);
        Check.due("smudged", x.cell(20, 0), 1);
        Check.due("on a line no more", x.cell(20, 1), 0);
        Check.due("inside of 0 still", x.cell(20, 2), 1);
        Check.due("crossing lines: both", x.cell(21, 1), 3);
        Check.due("what 4", x.cell(0, 4), Check.BEYOND);
        Check.due("what -1", x.cell(0, -1), Check.BEYOND);
        Check.due("cell 48", x.cell(48, 0), Check.BEYOND);
        for (int far : Check.FAR) {
            Check.due("far cell", x.cell(far, 0), Check.BEYOND);
            Check.due("far what", x.cell(0, far), Check.BEYOND);
        }
    }

    private static void promise4() {
        PenAcres x = Lands.twoRings();
        Check.due("none smudged", x.cells(0), 0);
        Check.due("disputed", x.cells(1), Check.set(27, 28));
        Check.due("owned", x.cells(2), Check.set(18, 19, 20, 26, 27, 28, 29, 35, 36, 37));
        x.set(0, 2, 0);
        Check.due("one that does not write disputes nothing", x.cells(1), 0);
        Check.due("nor owns", x.cells(2), Check.set(27, 28, 29, 35, 36, 37));
        x.smudge(5, 1);
        x.smudge(46, 1);
        Check.due("smudged", x.cells(0), Check.set(5, 46));
        x.set(0, 2, 30);
        Lands.ring(x, 9, 5, 4);
        Check.due("three: two or more", x.cells(1),
            Check.set(18, 19, 20, 26, 27, 28, 29, 35, 36, 37));
        Check.due("what 3", x.cells(3), Check.BEYOND);
        Check.due("what -1", x.cells(-1), Check.BEYOND);
        for (int far : Check.FAR) {
            Check.due("far what", x.cells(far), Check.BEYOND);
        }
    }

    public static void main(String[] args) {
        promise1();
        promise2();
        promise3();
        promise4();
        Check.end();
    }
}
