/** Promises 38 to 42: image, undo, tear, count, status. */
public final class ImagesTest {
    private static void promise38and39() {
        PenAcres x = Lands.twoRings();
        Check.due("nothing kept", x.undo(), Check.NONE);
        x.smudge(3, 1);
        x.smudge(40, 1);
        x.years(1);
        x.sheet(0, 64, 1);
        x.write(0, 0, 5);
        Check.feed(x, "dry");
        String before = Lands.all(x);
        Check.due("kept", x.image(), 1);
        Check.due("nothing changes by it", before.equals(Lands.all(x)) ? 1 : 0, 1);
        x.hand(2, 8);
        x.set(0, 1, 1);
        x.set(0, 2, 500);
        x.alter(1, 1, 0, 3);
        x.alter(1, 1, 1, 7);
        x.stroke(1, 2, 2);
        x.turn(0, 4);
        x.smudge(40, 0);
        x.smudge(41, 1);
        x.years(7);
        x.write(0, 0, 6);
        Check.feed(x, " 4");
        Check.due("how many hands", x.undo(), 2);
        Check.due("the tape stays", x.wipe(), 5);
        Check.feed(x, "dry");
        Check.due("all is as it was", before.equals(Lands.all(x)) ? 1 : 0, 1);
        Check.due("lines, too", x.inside(1), Check.set(27, 28, 29, 35, 36, 37));
        Check.due("sheets stay", x.write(0, 0, 6), 6);
        x.cut(0, 0);
        x.years(1);
        Check.due("it stays", x.undo(), 2);
        Check.due("all is as it was again", before.equals(Lands.all(x)) ? 1 : 0, 1);
        x.set(0, 2, 444);
        Check.due("another one", x.image(), 1);
        x.set(0, 2, 445);
        x.undo();
        Check.due("the latest", x.of(0, 2), 444);
        Check.due("findings stay", x.status(-1), 1);
    }

    private static void emptyImage() {
        PenAcres x = new PenAcres();
        x.image();
        Lands.ring(x, 9, 4, 3);
        Check.due("corn", x.years(1), 12);
        Check.due("no hands", x.undo(), 0);
        Check.due("none", x.count(0), 0);
        x.hand(0, 9);
        Check.due("a new one has 30 ink", x.of(0, 2), 30);
        Check.due("no corn", x.of(0, 3), 0);
        Check.due("no strokes", x.of(0, 4), 0);
        Check.due("nor cost", x.of(0, 5), 0);
        Check.due("nor anything inside", x.inside(0), 0);
    }

    /** "All that section 1 tells": each of it, with as many hands and strokes as can be, after all was changed. */
    private static void fullImage() {
        PenAcres x = new PenAcres();
        for (int hand = 0; hand < 6; hand++) {
            x.hand(hand, 7 * hand);
            for (int i = 0; i < 8; i++) {
                x.stroke(hand, (hand + i) % 4, 1 + (hand + i) % 7);
            }
        }
        x.smudge(0, 1);
        x.smudge(47, 1);
        x.smudge(20, 1);
        x.years(2);
        String before = Lands.all(x);
        long[] inside = new long[6];
        for (int hand = 0; hand < 6; hand++) {
            inside[hand] = x.inside(hand);
        }
        Check.due("kept", x.image(), 1);
        for (int hand = 0; hand < 6; hand++) {
            x.turn(hand, 5 - hand);
            x.set(hand, 1, 47 - hand);
            x.set(hand, 2, 999 - hand);
            x.alter(hand, 0, 0, (hand + 1) % 4);
            x.alter(hand, 7, 1, 1 + (hand + 3) % 7);
            x.cut(hand, hand);
        }
        x.smudge(5, 1);
        x.smudge(47, 0);
        x.years(30);
        Check.due("six", x.undo(), 6);
        Check.due("all as it was", before.equals(Lands.all(x)) ? 1 : 0, 1);
        for (int hand = 0; hand < 6; hand++) {
            Check.due("inside as it was", x.inside(hand), inside[hand]);
        }
        Check.due("full as it was", x.hand(0, 0), Check.FULL);
        Check.due("its strokes, too", x.stroke(5, 0, 1), Check.FULL);
    }

    /** "(which stays)", "(undo() takes none back)", and no call but these three touches what is kept. */
    private static void whatIsKept() {
        PenAcres x = new PenAcres();
        x.hand(0, 9);
        x.image();
        x.hand(0, 10);
        Check.due("fault", Check.tell(x, "hand at 11; hand"), -1 - 16);
        Check.due("text", Check.tell(x, "hand at 12"), 1);
        x.on(0, 60, 0);
        x.dry(0);
        x.rich(60);
        x.longer(0);
        x.begin(0);
        x.kind(0);
        x.ink(0);
        x.sheet(0, 8, 2);
        x.book(0, 0);
        x.read(0, 0);
        x.wipe();
        int findings = x.status(-1);
        Check.due("findings", findings, 2);
        Check.due("three hands", x.count(0), 3);
        for (int i = 0; i < 3; i++) {
            Check.due("one was kept", x.undo(), 1);
            x.hand(0, 20 + i);
        }
        Check.due("findings stay", x.status(-1), findings);
        Check.due("at 9", x.of(0, 1), 9);
        x.image();
        Check.due("two kept now", x.undo(), 2);
        Check.due("torn", x.tear(), 1);
        Check.due("what there is stays", x.count(0), 2);
        Check.due("none", x.undo(), Check.NONE);
        Check.due("what there is stays, too", x.count(0), 2);
    }

    /** YEAR goes back by undo(), so that years can go again. */
    private static void yearsAgain() {
        PenAcres x = new PenAcres();
        x.image();
        for (int i = 0; i < 166; i++) {
            x.years(60);
        }
        x.years(39);
        Check.due("no year more", x.years(1), Check.STATE);
        Check.due("back", x.undo(), 0);
        Check.due("year 0", x.now(0), 0);
        Check.due("again", x.years(60), 0);
        Check.due("year 60", x.now(0), 60);
    }

    private static void promise40() {
        PenAcres x = new PenAcres();
        Check.due("nothing", x.tear(), 0);
        x.image();
        x.image();
        Check.due("something", x.tear(), 1);
        Check.due("nothing more", x.tear(), 0);
        Check.due("nothing kept", x.undo(), Check.NONE);
        x.image();
        Check.due("kept anew", x.undo(), 0);
    }

    private static void promise41() {
        PenAcres x = Lands.twoRings();
        x.hand(1, 0);
        x.stroke(2, 1, 5);
        Check.feed(x, "abc");
        int[] want = {3, 3, 9, 30};
        for (int what = 0; what < 4; what++) {
            Check.due("count(" + what + ")", x.count(what), want[what]);
        }
        x.set(0, 2, 0);
        Check.due("costs of those that don't write, too", x.count(3), 30);
        Check.due("what 4", x.count(4), Check.BEYOND);
        Check.due("what -1", x.count(-1), Check.BEYOND);
        for (int far : Check.FAR) {
            Check.due("far what", x.count(far), Check.BEYOND);
        }
    }

    private static void promise42() {
        PenAcres x = new PenAcres();
        for (int which = -1; which <= 6; which++) {
            Check.due("none yet", x.status(which), 0);
        }
        x.cells(9);
        x.line(0);
        for (int i = 0; i < 7; i++) {
            x.hand(0, 20);
        }
        x.as(0, 3);
        x.dry(0);
        x.undo();
        x.write(0, 0, 0);
        x.sheet(0, 8, -1);
        x.copy(0, 0, 1, 0, 0);
        int[] want = {2, 1, 1, 2, 0, 2, 1};
        for (int which = 0; which < 7; which++) {
            Check.due("status(" + which + ")", x.status(which), want[which]);
        }
        Check.due("all", x.status(-1), 9);
        Check.due("another one", x.status(7), Check.BEYOND);
        Check.due("counted from then on", x.status(0), 3);
        Check.due("another one below", x.status(-2), Check.BEYOND);
        Check.due("counted, too", x.status(0), 4);
        for (int far : Check.FAR) {
            Check.due("far which", x.status(far), Check.BEYOND);
        }
        Check.due("all then", x.status(-1), 11 + Check.FAR.length);
        x.image();
        x.status(9);
        x.undo();
        Check.due("undo takes none back", x.status(-1), 12 + Check.FAR.length);
    }

    public static void main(String[] args) {
        promise38and39();
        emptyImage();
        fullImage();
        whatIsKept();
        yearsAgain();
        promise40();
        promise41();
        promise42();
        Check.end();
    }
}
