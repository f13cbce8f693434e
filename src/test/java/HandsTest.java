/** Promises 5 to 15: hand, stroke, of, told, set, alter, cut, turn, as, line, inside. */
public final class HandsTest {
    private static void promise5() {
        PenAcres x = new PenAcres();
        Check.due("kind 6", x.hand(6, 0), Check.BEYOND);
        Check.due("kind -1", x.hand(-1, 0), Check.BEYOND);
        Check.due("cell 48", x.hand(0, 48), Check.BEYOND);
        Check.due("cell -1", x.hand(0, -1), Check.BEYOND);
        for (int far : Check.FAR) {
            Check.due("far kind", x.hand(far, 0), Check.BEYOND);
            Check.due("far cell", x.hand(0, far), Check.BEYOND);
        }
        Check.due("none yet", x.count(0), 0);
        for (int k = 0; k < 6; k++) {
            Check.due("its number", x.hand(k, 47 - k), k);
            Check.due("its kind", x.of(k, 0), k);
            Check.due("its place", x.of(k, 1), 47 - k);
            Check.due("30 ink at first", x.of(k, 2), 30);
            Check.due("no corn at first", x.of(k, 3), 0);
            Check.due("no strokes at first", x.of(k, 4), 0);
        }
        Check.due("a seventh", x.hand(0, 0), Check.FULL);
        Check.due("a seventh that can't be", x.hand(6, 0), Check.BEYOND);
        Check.due("six", x.count(0), 6);
    }

    private static void promise6() {
        PenAcres x = new PenAcres();
        Check.due("no hand", x.stroke(0, 0, 1), Check.BEYOND);
        x.hand(0, 20);
        Check.due("way 4", x.stroke(0, 4, 1), Check.BEYOND);
        Check.due("way -1", x.stroke(0, -1, 1), Check.BEYOND);
        Check.due("length 0", x.stroke(0, 0, 0), Check.BEYOND);
        Check.due("length 8", x.stroke(0, 0, 8), Check.BEYOND);
        for (int far : Check.FAR) {
            Check.due("far hand", x.stroke(far, 0, 1), Check.BEYOND);
            Check.due("far way", x.stroke(0, far, 1), Check.BEYOND);
            Check.due("far length", x.stroke(0, 0, far), Check.BEYOND);
        }
        Check.due("none yet", x.of(0, 4), 0);
        for (int i = 0; i < 8; i++) {
            Check.due("how many", x.stroke(0, i % 4, 7 - i % 7), i + 1);
        }
        Check.due("a ninth", x.stroke(0, 0, 1), Check.FULL);
        Check.due("a ninth that can't be", x.stroke(0, 4, 1), Check.BEYOND);
        Check.due("eight", x.of(0, 4), 8);
        Check.due("way of 3", x.told(0, 3, 0), 3);
        Check.due("length of 3", x.told(0, 3, 1), 4);
    }

    private static void promise7() {
        PenAcres x = Lands.twoRings();
        x.turn(1, 0);
        int[] want = {0, 18, 30, 0, 4, 14, 1, 6, 4, 2};
        for (int what = 0; what < want.length; what++) {
            Check.due("of(1, " + what + ")", x.of(1, what), want[what]);
        }
        x.set(1, 2, 13);
        Check.due("too little ink", x.of(1, 6), 0);
        Check.due("inside all the same", x.of(1, 7), 6);
        Check.due("owns nothing", x.of(1, 8), 0);
        x.set(1, 2, 14);
        Check.due("just enough ink", x.of(1, 6), 1);
        x.set(1, 2, 31);
        Check.due("owns all inside with most ink", x.of(1, 8), 6);
        Check.due("the other one owns less", x.of(0, 8), 4);
        x.smudge(18, 1);
        Check.due("a smudged corner opens nothing", x.of(1, 7), 6);
        x.smudge(19, 1);
        Check.due("a smudged side does", x.of(1, 7), 0);
        Check.due("it owns nothing then", x.of(1, 8), 0);
        Check.due("it writes all the same", x.of(1, 6), 1);
        x.smudge(19, 0);
        Check.due("dry again", x.of(1, 7), 6);
        int[] crops = {2, 4, 2, 3, 3, 1};
        for (int k = 0; k < 6; k++) {
            x.turn(1, k);
            Check.due("crop of kind " + k, x.of(1, 9), crops[k]);
        }
        Check.due("what 10", x.of(0, 10), Check.BEYOND);
        Check.due("what -1", x.of(0, -1), Check.BEYOND);
        Check.due("hand 2", x.of(2, 0), Check.BEYOND);
        for (int far : Check.FAR) {
            Check.due("far hand", x.of(far, 0), Check.BEYOND);
            Check.due("far what", x.of(0, far), Check.BEYOND);
        }
    }

    /** Costs count steps taken alone: one off the field isn't. */
    private static void cost() {
        PenAcres x = new PenAcres();
        x.hand(0, 5);
        x.stroke(0, 1, 7);
        Check.due("two steps to the corner", x.of(0, 5), 2);
        x.stroke(0, 0, 3);
        Check.due("none up", x.of(0, 5), 2);
        x.stroke(0, 2, 7);
        Check.due("five down", x.of(0, 5), 7);
        x.stroke(0, 3, 7);
        Check.due("seven left", x.of(0, 5), 14);
        x.stroke(0, 3, 2);
        Check.due("none left", x.of(0, 5), 14);
        x.stroke(0, 1, 1);
        x.stroke(0, 3, 1);
        Check.due("a cell twice is two steps", x.of(0, 5), 16);
        x.smudge(6, 1);
        Check.due("smudged ones count", x.of(0, 5), 16);
    }

    private static void promise8() {
        PenAcres x = new PenAcres();
        x.hand(0, 20);
        for (int i = 0; i < 7; i++) {
            x.stroke(0, i % 4, i + 1);
        }
        int[][] steps = {
            {1, 2, 3, 4, 5, 6, 7},
            {1, 1, 1, 2, 2, 3, 3},
            {2, 3, 4, 5, 6, 7, 8},
            {1, 1, 3, 3, 5, 5, 7},
            {2, 1, 1, 2, 2, 3, 3},
            {2, 3, 4, 5, 6, 7, 8}
        };
        for (int k = 0; k < 6; k++) {
            x.turn(0, k);
            for (int i = 0; i < 7; i++) {
                Check.due("way", x.told(0, i, 0), i % 4);
                Check.due("length", x.told(0, i, 1), i + 1);
                Check.due("steps of kind " + k + ", stroke " + i, x.told(0, i, 2), steps[k][i]);
                int turned = k == 5 ? new int[] {0, 3, 2, 1}[i % 4] : i % 4;
                Check.due("turns of kind " + k, x.told(0, i, 3), turned);
            }
        }
        x.turn(0, 3);
        x.alter(0, 1, 1, 1);
        Check.due("a shaky one steps once at least", x.told(0, 1, 2), 1);
        Check.due("stroke 7", x.told(0, 7, 0), Check.BEYOND);
        Check.due("stroke -1", x.told(0, -1, 0), Check.BEYOND);
        Check.due("what 4", x.told(0, 0, 4), Check.BEYOND);
        Check.due("what -1", x.told(0, 0, -1), Check.BEYOND);
        Check.due("hand 1", x.told(1, 0, 0), Check.BEYOND);
        for (int far : Check.FAR) {
            Check.due("far hand", x.told(far, 0, 0), Check.BEYOND);
            Check.due("far stroke", x.told(0, far, 0), Check.BEYOND);
            Check.due("far what", x.told(0, 0, far), Check.BEYOND);
        }
    }

    private static void promise9() {
        PenAcres x = Lands.twoRings();
        Check.due("at", x.set(0, 1, 10), 9);
        Check.due("the line moves", x.inside(0), Check.set(19, 20, 21, 27, 28, 29));
        Check.due("at again", x.set(0, 1, 47), 10);
        Check.due("at last", x.set(0, 1, 0), 47);
        Check.due("ink", x.set(1, 2, 999), 30);
        Check.due("ink again", x.set(1, 2, 0), 999);
        Check.due("ink now", x.of(1, 2), 0);
        String before = Lands.all(x);
        Check.due("cell 48", x.set(0, 1, 48), Check.BEYOND);
        Check.due("cell -1", x.set(0, 1, -1), Check.BEYOND);
        Check.due("ink 1000", x.set(0, 2, 1000), Check.BEYOND);
        Check.due("ink -1", x.set(0, 2, -1), Check.BEYOND);
        Check.due("what 0", x.set(0, 0, 1), Check.BEYOND);
        Check.due("what 3", x.set(0, 3, 1), Check.BEYOND);
        Check.due("hand 2", x.set(2, 1, 1), Check.BEYOND);
        for (int far : Check.FAR) {
            Check.due("far hand", x.set(far, 1, 1), Check.BEYOND);
            Check.due("far what", x.set(0, far, 1), Check.BEYOND);
            Check.due("far v", x.set(0, 1, far), Check.BEYOND);
        }
        Check.due("nothing changed", before.equals(Lands.all(x)) ? 1 : 0, 1);
    }

    private static void promise10() {
        PenAcres x = Lands.twoRings();
        Check.due("length", x.alter(0, 0, 1, 5), 4);
        Check.due("the line changes", x.inside(0), Check.set(19, 20, 21, 27, 28, 29));
        x.alter(0, 0, 1, 4);
        Check.due("way", x.alter(0, 1, 0, 0), 2);
        Check.due("the line is open", x.inside(0), 0);
        Check.due("way now", x.told(0, 1, 0), 0);
        Check.due("length 7", x.alter(0, 3, 1, 7), 3);
        Check.due("length 1", x.alter(0, 3, 1, 1), 7);
        Check.due("way 0", x.alter(0, 3, 0, 3), 0);
        String before = Lands.all(x);
        Check.due("way 4", x.alter(0, 0, 0, 4), Check.BEYOND);
        Check.due("way -1", x.alter(0, 0, 0, -1), Check.BEYOND);
        Check.due("length 0", x.alter(0, 0, 1, 0), Check.BEYOND);
        Check.due("length 8", x.alter(0, 0, 1, 8), Check.BEYOND);
        Check.due("what 2", x.alter(0, 0, 2, 1), Check.BEYOND);
        Check.due("what -1", x.alter(0, 0, -1, 1), Check.BEYOND);
        Check.due("stroke 4", x.alter(0, 4, 0, 1), Check.BEYOND);
        Check.due("stroke -1", x.alter(0, -1, 0, 1), Check.BEYOND);
        Check.due("hand 2", x.alter(2, 0, 0, 1), Check.BEYOND);
        for (int far : Check.FAR) {
            Check.due("far hand", x.alter(far, 0, 0, 1), Check.BEYOND);
            Check.due("far stroke", x.alter(0, far, 0, 1), Check.BEYOND);
            Check.due("far what", x.alter(0, 0, far, 1), Check.BEYOND);
            Check.due("far v", x.alter(0, 0, 0, far), Check.BEYOND);
        }
        Check.due("nothing changed", before.equals(Lands.all(x)) ? 1 : 0, 1);
    }

    private static void promise11() {
        PenAcres x = Lands.twoRings();
        Check.due("as many as it has", x.cut(0, 4), 4);
        Check.due("one more", x.cut(0, 5), Check.BEYOND);
        Check.due("below 0", x.cut(0, -1), Check.BEYOND);
        Check.due("hand 2", x.cut(2, 0), Check.BEYOND);
        for (int far : Check.FAR) {
            Check.due("far hand", x.cut(far, 0), Check.BEYOND);
            Check.due("far n", x.cut(0, far), Check.BEYOND);
        }
        Check.due("all there still", x.of(0, 4), 4);
        Check.due("the first two", x.cut(0, 2), 4);
        Check.due("two", x.of(0, 4), 2);
        Check.due("their line", x.line(0), Check.set(9, 10, 11, 12, 13, 21, 29, 37));
        Check.due("their cost", x.of(0, 5), 7);
        Check.due("a stroke that is gone", x.told(0, 2, 0), Check.BEYOND);
        Check.due("a new one comes behind", x.stroke(0, 3, 1), 3);
        Check.due("none", x.cut(0, 0), 3);
        Check.due("at alone", x.line(0), Check.set(9));
    }

    private static void promise12() {
        PenAcres x = Lands.twoRings();
        Check.due("a duke", x.turn(0, 2), 0);
        Check.due("its line", x.inside(0), Check.set(18, 19, 20, 21, 26, 27, 28, 29, 34, 35, 36, 37));
        Check.due("a left one", x.turn(0, 5), 2);
        Check.due("of no other kind", x.turn(0, 5), 5);
        Check.due("kind 6", x.turn(0, 6), Check.BEYOND);
        Check.due("kind -1", x.turn(0, -1), Check.BEYOND);
        Check.due("hand 2", x.turn(2, 0), Check.BEYOND);
        for (int far : Check.FAR) {
            Check.due("far hand", x.turn(far, 0), Check.BEYOND);
            Check.due("far kind", x.turn(0, far), Check.BEYOND);
        }
        Check.due("left still", x.of(0, 0), 5);
        Check.due("strokes stay", x.of(0, 4), 4);
    }

    private static void promise13() {
        int[][] under = {{0}, {0, 1}, {0, 2}, {0, 3}, {0, 1, 4}, {0, 2, 5}};
        PenAcres x = new PenAcres();
        x.hand(0, 0);
        x.set(0, 2, 77);
        int others = 0;
        for (int k = 0; k < 6; k++) {
            x.turn(0, k);
            for (int as = 0; as < 6; as++) {
                boolean is = false;
                for (int u : under[k]) {
                    is |= u == as;
                }
                others += is ? 0 : 1;
                Check.due("kind " + k + " as " + as, x.as(0, as), is ? 77 : Check.KIND);
            }
        }
        Check.due("counted", x.status(2), others);
        Check.due("kind 6", x.as(0, 6), Check.BEYOND);
        Check.due("kind -1", x.as(0, -1), Check.BEYOND);
        Check.due("hand 1", x.as(1, 5), Check.BEYOND);
        for (int far : Check.FAR) {
            Check.due("far hand", x.as(far, 0), Check.BEYOND);
            Check.due("far kind", x.as(0, far), Check.BEYOND);
        }
    }

    private static void promise14() {
        PenAcres x = new PenAcres();
        x.hand(0, 47);
        Check.due("at alone", x.line(0), Check.set(47));
        x.stroke(0, 3, 2);
        x.stroke(0, 0, 7);
        x.stroke(0, 1, 1);
        Check.due("a step off isn't taken", x.line(0), Check.set(47, 46, 45, 37, 29, 21, 13, 5, 6));
        x.turn(0, 5);
        Check.due("left handers write it backward", x.line(0), Check.set(47, 39, 31, 23, 15, 7, 6, 5));
        x.smudge(47, 1);
        x.smudge(23, 1);
        x.smudge(0, 1);
        Check.due("less those smudged", x.line(0), Check.set(39, 31, 15, 7, 6, 5));
        Check.due("hand 1", x.line(1), Check.BEYOND);
        Check.due("hand -1", x.line(-1), Check.BEYOND);
        for (int far : Check.FAR) {
            Check.due("far hand", x.line(far), Check.BEYOND);
        }
    }

    private static void promise15() {
        PenAcres x = new PenAcres();
        Lands.ring(x, 0, 7, 5);
        Check.due("a ring along the edge", x.inside(0), 543288098304L);
        x.smudge(47, 1);
        Check.due("open at a corner: beside nothing inside", x.inside(0), 543288098304L);
        x.smudge(47, 0);
        x.smudge(46, 1);
        Check.due("open at the edge", x.inside(0), 0);
        x.smudge(46, 0);
        Check.due("closed again", x.inside(0), 543288098304L);
        x.smudge(20, 1);
        Check.due("smudged ones inside are inside", x.inside(0), 543288098304L);
        int two = x.hand(0, 9);
        Lands.strokes(x, two, 1, 2, 2, 4, 3, 2, 0, 2, 1, 2, 3, 2, 0, 2);
        Check.due("two rooms", x.inside(two), Check.set(18, 34));
        x.smudge(26, 1);
        Check.due("one room with what parted them", x.inside(two), Check.set(18, 26, 34));
        x.smudge(20, 0);
        x.smudge(26, 0);
        Check.due("a ring of four cells has nothing inside", x.inside(Lands.ring(x, 9, 1, 1)), 0);
        int small = Lands.ring(x, 10, 2, 2);
        Check.due("the least pond", x.inside(small), Check.set(19));
        x.smudge(10, 1);
        Check.due("a corner opens nothing", x.inside(small), Check.set(19));
        x.smudge(11, 1);
        Check.due("a side does", x.inside(small), 0);
        x.smudge(11, 0);
        Check.due("dry again", x.inside(small), Check.set(19));
        for (int cell : new int[] {10, 11, 12, 20, 28, 27, 26, 18}) {
            x.smudge(cell, 1);
        }
        Check.due("a line that is all smudged", x.line(small), 0);
        Check.due("has nothing inside", x.inside(small), 0);
        Check.due("hand 4", x.inside(4), Check.BEYOND);
        Check.due("hand -1", x.inside(-1), Check.BEYOND);
        for (int far : Check.FAR) {
            Check.due("far hand", x.inside(far), Check.BEYOND);
        }
    }

    public static void main(String[] args) {
        promise5();
        promise6();
        promise7();
        cost();
        promise8();
        promise9();
        promise10();
        promise11();
        promise12();
        promise13();
        promise14();
        promise15();
        Check.end();
    }
}
