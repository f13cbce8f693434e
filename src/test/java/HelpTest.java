/** Promises 21 to 28: rain, longer, begin, kind, ink, court, way, sea. */
public final class HelpTest {
    private static void promise21() {
        PenAcres x = new PenAcres();
        Lands.ring(x, 9, 4, 3);
        Check.due("the least side; the corner opens nothing", x.rain(0), 10);
        x.smudge(9, 1);
        Check.due("a smudged corner changes nothing", x.rain(0), 10);
        x.smudge(9, 0);
        x.smudge(10, 1);
        Check.due("open already", x.rain(0), Check.NONE);
        x.smudge(10, 0);
        // Two rooms of 1 and 4 cells: the larger one's wall is worth more, the wall between adds one.
        int two = x.hand(0, 8);
        Lands.strokes(x, two, 1, 2, 2, 2, 3, 2, 0, 2, 1, 5, 2, 3, 3, 3, 0, 3);
        Check.due("rooms", x.inside(two), Check.set(17, 19, 20, 27, 28));
        Check.due("the larger room", x.rain(two), 11);
        Check.due("nothing changed", x.cells(0), 0);
        int bare = x.hand(0, 3);
        Check.due("nothing to open", x.rain(bare), Check.NONE);
        // Rooms 18 above 34: once 10 is open, their wall opens the room that is left.
        int rooms = x.hand(0, 9);
        Lands.strokes(x, rooms, 1, 2, 2, 4, 3, 2, 0, 2, 1, 2, 3, 2, 0, 2);
        Check.due("the first room's wall", x.rain(rooms), 10);
        x.smudge(10, 1);
        Check.due("a room is open already", x.rain(rooms), 26);
        x.smudge(26, 1);
        Check.due("both are: none fewer", x.rain(rooms), Check.NONE);
        Check.due("hand 4", x.rain(4), Check.BEYOND);
        Check.due("hand -1", x.rain(-1), Check.BEYOND);
        for (int far : Check.FAR) {
            Check.due("far hand", x.rain(far), Check.BEYOND);
        }
    }

    private static void promise22() {
        PenAcres x = new PenAcres();
        Lands.ring(x, 9, 4, 3);
        // Down 4, left 4, up 3 ends beside the place it began at: a row more is inside.
        Check.due("down by one more", x.longer(0), 1);
        Check.due("nothing changed", x.told(0, 1, 1), 3);
        Check.due("nor the line", x.of(0, 7), 6);
        x.set(0, 1, 16);
        Check.due("no room below, none to the left", x.longer(0), Check.NONE);
        x.cut(0, 3);
        Check.due("no stroke closes it", x.longer(0), Check.NONE);
        x.cut(0, 0);
        Check.due("no strokes", x.longer(0), Check.NONE);
        // Right 2, down 2, left 2 in two, up 2: a longer 1, 2 or 3 has 2 cells inside.
        x.set(0, 1, 9);
        Lands.strokes(x, 0, 1, 2, 2, 2, 3, 1, 3, 1, 0, 2);
        Check.due("one is inside", x.of(0, 7), 1);
        Check.due("of several the least", x.longer(0), 1);
        int first = x.hand(0, 8);
        Lands.strokes(x, first, 1, 2, 2, 2, 3, 7, 0, 2);
        Check.due("stroke 0 or 1: the least", x.longer(first), 0);
        x.smudge(34, 1);
        Check.due("the second, for the first is smudged", x.longer(0), 2);
        Check.due("hand 2", x.longer(2), Check.BEYOND);
        Check.due("hand -1", x.longer(-1), Check.BEYOND);
        for (int far : Check.FAR) {
            Check.due("far hand", x.longer(far), Check.BEYOND);
        }
    }

    /** A miser's 7 is three steps, and 8 would be four. */
    private static void sevenAtMost() {
        PenAcres x = new PenAcres();
        x.hand(1, 8);
        Lands.strokes(x, 0, 1, 7, 2, 7, 3, 7, 0, 7);
        Check.due("four cells", x.of(0, 7), 4);
        Check.due("7 at most", x.longer(0), Check.NONE);
        x.alter(0, 1, 1, 5);
        Check.due("two cells", x.of(0, 7), 2);
        Check.due("from 5 to 6 is a step more", x.longer(0), 1);
        x.alter(0, 1, 1, 4);
        Check.due("from 4 to 5 is none", x.longer(0), Check.NONE);
    }

    private static void promise23() {
        PenAcres x = new PenAcres();
        x.hand(0, 20);
        Check.due("nothing inside anywhere: cell 0", x.begin(0), 0);
        Lands.strokes(x, 0, 1, 3, 2, 3, 3, 3, 0, 3);
        Check.due("the least of many", x.begin(0), 0);
        Check.due("nothing changed", x.of(0, 1), 20);
        x.smudge(1, 1);
        x.smudge(10, 1);
        // From 0 the ring needs 1, from 1 it needs 2 and 3: smudged 10 lies inside of it.
        Check.due("where no rain was", x.begin(0), 1);
        x.cut(0, 0);
        x.smudge(1, 0);
        Lands.strokes(x, 0, 3, 3, 0, 3, 1, 3, 2, 3);
        Check.due("leftward and up it begins below", x.begin(0), 26);
        // From below the field it would go around it all: only a CELL will do.
        PenAcres y = new PenAcres();
        y.hand(0, 0);
        Lands.strokes(y, 0, 0, 1, 1, 7, 0, 5, 3, 7, 2, 5);
        Check.due("from the last row", y.begin(0), 40);
        PenAcres z = new PenAcres();
        z.hand(0, 0);
        Lands.strokes(z, 0, 0, 2, 3, 2, 2, 2, 1, 2);
        for (int cell = 0; cell < 48; cell++) {
            boolean aroundTheLast = cell == 30 || cell == 37 || cell == 39 || cell == 46;
            z.smudge(cell, aroundTheLast ? 0 : 1);
        }
        Check.due("the last cell that will do", z.begin(0), 47);
        Check.due("hand 1", x.begin(1), Check.BEYOND);
        Check.due("hand -1", x.begin(-1), Check.BEYOND);
        for (int far : Check.FAR) {
            Check.due("far hand", x.begin(far), Check.BEYOND);
        }
    }

    private static void promise24() {
        PenAcres x = new PenAcres();
        Lands.ring(x, 9, 4, 3);
        Check.due("as a duke 12", x.kind(0), 2);
        x.set(0, 2, 17);
        Check.due("a duke's 18 can't be paid", x.kind(0), 0);
        x.set(0, 2, 13);
        Check.due("a hand's 14 can't be paid, a miser owns one at 6", x.kind(0), 3);
        Check.due("nothing changed", x.of(0, 0), 0);
        x.set(0, 2, 0);
        Check.due("none owns: the least", x.kind(0), 0);
        PenAcres y = new PenAcres();
        y.hand(0, 14);
        Lands.strokes(y, 0, 1, 3, 2, 3, 3, 3, 0, 3);
        Check.due("backward alone it fits", y.kind(0), 5);
        Lands.ring(y, 8, 6, 4);
        y.set(1, 2, 31);
        Check.due("another one owns it all", y.kind(0), 0);
        Check.due("hand 2", y.kind(2), Check.BEYOND);
        Check.due("hand -1", y.kind(-1), Check.BEYOND);
        for (int far : Check.FAR) {
            Check.due("far hand", y.kind(far), Check.BEYOND);
        }
    }

    private static void promise25() {
        PenAcres x = Lands.twoRings();
        Check.due("with 30 it is the least of equals", x.ink(0), 30);
        Check.due("with 31 it has more than 0", x.ink(1), 31);
        x.set(1, 2, 13);
        Check.due("against one that does not write: its cost", x.ink(0), 14);
        x.set(1, 2, 999);
        Check.due("999 beats as much", x.ink(0), 999);
        x.set(0, 2, 999);
        Check.due("999 of a later one can't: all that is free at its cost", x.ink(1), 14);
        Check.due("nothing changed", x.of(1, 2), 999);
        x.hand(0, 3);
        Check.due("nothing to own: none", x.ink(2), 0);
        Check.due("hand 3", x.ink(3), Check.BEYOND);
        Check.due("hand -1", x.ink(-1), Check.BEYOND);
        for (int far : Check.FAR) {
            Check.due("far hand", x.ink(far), Check.BEYOND);
        }
    }

    /** "The least INK (0 to 999) with which a HAND OWNS as many CELLS as it can by INK." */
    private static void everyInk() {
        for (int ink = 0; ink <= 999; ink++) {
            PenAcres x = Lands.twoRings();
            x.set(0, 2, ink);
            x.set(1, 2, ink);
            boolean writes = ink >= 14;
            Check.due("as much as 1's " + ink, x.ink(0), writes ? ink : 14);
            Check.due("one more than 0's " + ink, x.ink(1), !writes || ink == 999 ? 14 : ink + 1);
        }
        // What it has is no matter; a hand that costs nothing needs nothing.
        PenAcres x = Lands.twoRings();
        x.set(1, 2, 500);
        x.set(0, 2, 999);
        Check.due("with 999", x.ink(0), 500);
        x.set(0, 2, 0);
        Check.due("with 0", x.ink(0), 500);
        x.cut(0, 0);
        Check.due("nothing inside", x.ink(0), 0);
        x.cut(1, 0);
        Lands.strokes(x, 0, 1, 7, 3, 7, 1, 7, 3, 7);
        Check.due("a cost for nothing", x.ink(0), 0);
    }

    private static void promise26() {
        PenAcres x = Lands.twoRings();
        Check.due("two cells", x.court(0, 1), 2);
        Check.due("either way", x.court(1, 0), 2);
        x.set(0, 2, 0);
        Check.due("whether they write or not", x.court(0, 1), 2);
        x.smudge(10, 1);
        Check.due("the first is open", x.court(0, 1), 0);
        Check.due("either way none", x.court(1, 0), 0);
        x.smudge(10, 0);
        x.smudge(43, 1);
        Check.due("the second is open", x.court(0, 1), 0);
        Check.due("either way none, too", x.court(1, 0), 0);
        x.smudge(43, 0);
        Check.due("both are dry", x.court(0, 1), 2);
        Check.due("one and the same", x.court(1, 1), Check.BEYOND);
        Check.due("hand 2", x.court(2, 0), Check.BEYOND);
        Check.due("other 2", x.court(0, 2), Check.BEYOND);
        Check.due("hand -1", x.court(-1, 0), Check.BEYOND);
        for (int far : Check.FAR) {
            Check.due("far hand", x.court(far, 0), Check.BEYOND);
            Check.due("far other", x.court(0, far), Check.BEYOND);
        }
    }

    private static void promise27() {
        PenAcres x = new PenAcres();
        Lands.ring(x, 9, 4, 3);
        Check.due("to itself", x.way(0, 9, 9), 0);
        Check.due("beside", x.way(0, 9, 10), 1);
        Check.due("half around", x.way(0, 9, 37), 7);
        Check.due("back", x.way(0, 37, 9), 7);
        x.smudge(10, 1);
        Check.due("the other way round", x.way(0, 9, 11), 12);
        x.smudge(35, 1);
        Check.due("parted", x.way(0, 9, 11), Check.NONE);
        Check.due("not on the line", x.way(0, 9, 0), Check.NONE);
        Check.due("from none of it", x.way(0, 0, 9), Check.NONE);
        Check.due("to itself, not on the line", x.way(0, 18, 18), Check.NONE);
        Check.due("to itself, smudged", x.way(0, 10, 10), Check.NONE);
        // Rows end at the edge: 7 and 8 are not beside.
        int across = x.hand(0, 7);
        Lands.strokes(x, across, 3, 7, 2, 1);
        Check.due("along the row", x.way(across, 7, 8), 8);
        // The longest way there is: a snake through the rows.
        int snake = x.hand(0, 0);
        Lands.strokes(x, snake, 1, 7, 2, 2, 3, 7, 2, 2, 1, 7);
        x.smudge(10, 0);
        x.smudge(35, 0);
        Check.due("all along", x.way(snake, 0, 39), 25);
        Check.due("cell 48", x.way(0, 48, 9), Check.BEYOND);
        Check.due("cell -1", x.way(0, 9, -1), Check.BEYOND);
        Check.due("hand 3", x.way(3, 9, 9), Check.BEYOND);
        for (int far : Check.FAR) {
            Check.due("far hand", x.way(far, 9, 9), Check.BEYOND);
            Check.due("far from", x.way(0, far, 9), Check.BEYOND);
            Check.due("far to", x.way(0, 9, far), Check.BEYOND);
        }
        Check.due("counted", x.status(3), 5);
    }

    private static void promise28() {
        PenAcres x = new PenAcres();
        Check.due("row 0", x.sea(), 0);
        Lands.ring(x, 0, 7, 5);
        Check.due("the edge is never inside: row 0", x.sea(), 0);
        Check.due("no finding", x.status(-1), 0);
    }

    public static void main(String[] args) {
        promise21();
        promise22();
        sevenAtMost();
        promise23();
        promise24();
        promise25();
        everyInk();
        promise26();
        promise27();
        promise28();
        Check.end();
    }
}
