/** Promises 16 to 20: years, now, on, dry, rich. */
public final class YearsTest {
    private static void promise16() {
        PenAcres x = Lands.twoRings();
        x.hand(1, 0);
        x.set(2, 2, 0);
        x.stroke(2, 1, 4);
        x.smudge(40, 1);
        x.smudge(7, 1);
        // 0 owns 6 and 1 owns 4, each at a cost of 14; 2 costs 2 and can't write.
        Check.due("corn of all", x.years(1), 20);
        Check.due("ink of 0", x.of(0, 2), 30 - 14 + 6);
        Check.due("ink of 1", x.of(1, 2), 30 - 14 + 4);
        Check.due("ink of 2, at rest", x.of(2, 2), 5);
        Check.due("corn of 0", x.of(0, 3), 12);
        Check.due("corn of 1", x.of(1, 3), 8);
        Check.due("corn of 2", x.of(2, 3), 0);
        Check.due("the least smudged is dry", x.cells(0), Check.set(40));
        Check.due("year", x.now(0), 1);
        // Now 22 and 20: both write. Then 14 and 10: 0 alone writes.
        Check.due("two more", x.years(2), 20 + 20 + 12);
        Check.due("ink of 0 then", x.of(0, 2), 6);
        Check.due("ink of 1 then", x.of(1, 2), 15);
        Check.due("none smudged", x.cells(0), 0);
        Check.due("year then", x.now(0), 3);
        String before = Lands.all(x);
        Check.due("0 years", x.years(0), Check.BEYOND);
        Check.due("61 years", x.years(61), Check.BEYOND);
        for (int far : Check.FAR) {
            Check.due("far n", x.years(far), Check.BEYOND);
        }
        Check.due("nothing changed", before.equals(Lands.all(x)) ? 1 : 0, 1);
    }

    /** A year goes by what is so as it begins: the smudge dries after the harvest. */
    private static void begins() {
        PenAcres x = new PenAcres();
        Lands.ring(x, 9, 2, 2);
        x.smudge(10, 1);
        Check.due("open", x.years(1), 0);
        Check.due("closed", x.years(1), 2);
        // With equal ink the least number has it, and the year's ink is told at its beginning.
        PenAcres y = new PenAcres();
        Lands.ring(y, 9, 2, 2);
        Lands.ring(y, 9, 2, 2);
        y.years(1);
        Check.due("0 had it", y.of(0, 3), 2);
        Check.due("1 had not", y.of(1, 3), 0);
        y.set(1, 2, 24);
        y.years(1);
        Check.due("1 had it", y.of(1, 3), 2);
    }

    private static void cornIsHeld() {
        // A ring along the edge: 24 cells at a cost of 24, so that it writes for ever.
        PenAcres x = new PenAcres();
        Lands.ring(x, 0, 7, 5);
        Check.due("a year", x.years(1), 48);
        Check.due("ink", x.of(0, 2), 30);
        int corn = 48;
        for (int i = 0; i < 36; i++) {
            corn += 60 * 48;
            Check.due("corn is held to 99999", x.years(60), Math.min(corn, 99999));
        }
        Check.due("held", x.of(0, 3), 99999);
    }

    private static void inkIsHeld() {
        // Without the corner it began at: 24 cells at a cost of 22.
        PenAcres x = new PenAcres();
        x.hand(0, 1);
        Lands.strokes(x, 0, 1, 6, 2, 5, 3, 7, 0, 4);
        Check.due("cost", x.of(0, 5), 22);
        Check.due("owns", x.of(0, 8), 24);
        x.set(0, 2, 996);
        x.years(1);
        Check.due("two more", x.of(0, 2), 998);
        x.years(1);
        Check.due("999 at most", x.of(0, 2), 999);
        x.set(0, 2, 21);
        x.years(1);
        Check.due("five more at rest", x.of(0, 2), 26);
        x.cut(0, 0);
        x.set(0, 2, 0);
        x.years(1);
        Check.due("writing for nothing costs nothing", x.of(0, 2), 0);
    }

    private static void lastYear() {
        PenAcres x = new PenAcres();
        for (int i = 0; i < 166; i++) {
            x.years(60);
        }
        Check.due("year 9960", x.now(0), 9960);
        Check.due("40 more are too many", x.years(40), Check.STATE);
        Check.due("61 are beyond first", x.years(61), Check.BEYOND);
        Check.due("39 more", x.years(39), 0);
        Check.due("the last year", x.now(0), 9999);
        Check.due("none more", x.years(1), Check.STATE);
        Check.due("counted", x.status(4), 2);
        x.hand(0, 0);
        Check.due("on goes on all the same", x.on(0, 60, 0), 30);
        Check.due("dry, too", x.dry(0), Check.NONE);
        Check.due("rich, too", x.rich(60), 0);
    }

    private static void promise17() {
        PenAcres x = Lands.twoRings();
        x.set(0, 2, 13);
        x.smudge(3, 1);
        x.smudge(4, 1);
        Check.due("year", x.now(0), 0);
        Check.due("corn", x.now(1), 0);
        Check.due("ink", x.now(2), 43);
        Check.due("hands that write", x.now(3), 2);
        Check.due("smudged", x.now(4), 2);
        x.years(1);
        Check.due("year then", x.now(0), 1);
        Check.due("corn then", x.now(1), 12);
        Check.due("ink then", x.now(2), 18 + 22);
        Check.due("hands that write then", x.now(3), 3);
        Check.due("smudged then", x.now(4), 1);
        Check.due("what 5", x.now(5), Check.BEYOND);
        Check.due("what -1", x.now(-1), Check.BEYOND);
        for (int far : Check.FAR) {
            Check.due("far what", x.now(far), Check.BEYOND);
        }
    }

    private static void promise18() {
        PenAcres x = Lands.twoRings();
        x.smudge(44, 1);
        String before = Lands.all(x);
        int[] ink = {30, 22, 14, 6, 11, 16};
        int[] corn = {0, 12, 24, 36, 36, 36};
        int[] owns = {6, 6, 6, 0, 0, 6};
        for (int n = 0; n < ink.length; n++) {
            Check.due("ink on " + n, x.on(0, n, 0), ink[n]);
            Check.due("corn on " + n, x.on(0, n, 1), corn[n]);
        }
        for (int n = 0; n < 4; n++) {
            Check.due("owns on " + n, x.on(0, n, 2), owns[n]);
        }
        // The other one's line is open for the first year.
        Check.due("owns of 1", x.on(1, 0, 2), 0);
        Check.due("owns of 1 on 1", x.on(1, 1, 2), 4);
        Check.due("60 years", x.on(0, 60, 1) > 36 ? 1 : 0, 1);
        Check.due("n 61", x.on(0, 61, 0), Check.BEYOND);
        Check.due("n -1", x.on(0, -1, 0), Check.BEYOND);
        Check.due("what 3", x.on(0, 1, 3), Check.BEYOND);
        Check.due("what -1", x.on(0, 1, -1), Check.BEYOND);
        Check.due("hand 2", x.on(2, 1, 0), Check.BEYOND);
        for (int far : Check.FAR) {
            Check.due("far hand", x.on(far, 1, 0), Check.BEYOND);
            Check.due("far n", x.on(0, far, 0), Check.BEYOND);
            Check.due("far what", x.on(0, 1, far), Check.BEYOND);
        }
        Check.due("nothing changed", before.equals(Lands.all(x)) ? 1 : 0, 1);
    }

    private static void promise19() {
        PenAcres x = Lands.twoRings();
        Check.due("ink is out in 3 years", x.dry(0), 3);
        x.set(0, 2, 13);
        Check.due("at once", x.dry(0), 0);
        x.hand(0, 5);
        Check.due("one without strokes never", x.dry(2), Check.NONE);
        x.stroke(2, 1, 2);
        // Two a year: 999 last 60 years, 121 are one short of it.
        x.set(2, 2, 999);
        Check.due("not in 60 years", x.dry(2), Check.NONE);
        x.set(2, 2, 122);
        Check.due("60 years and no less", x.dry(2), Check.NONE);
        x.set(2, 2, 121);
        Check.due("the 60th", x.dry(2), 60);
        x.set(2, 2, 120);
        Check.due("nothing less", x.dry(2), 60);
        x.set(2, 2, 119);
        Check.due("the 59th", x.dry(2), 59);
        Check.due("nothing changed", x.of(2, 2), 119);
        Check.due("hand 3", x.dry(3), Check.BEYOND);
        Check.due("hand -1", x.dry(-1), Check.BEYOND);
        for (int far : Check.FAR) {
            Check.due("far hand", x.dry(far), Check.BEYOND);
        }
    }

    private static void promise20() {
        PenAcres x = new PenAcres();
        Check.due("nobody", x.rich(0), Check.NONE);
        Check.due("beyond first", x.rich(61), Check.BEYOND);
        x.hand(0, 0);
        Lands.ring(x, 9, 2, 2);
        Lands.ring(x, 13, 2, 2);
        Check.due("all have none: the least", x.rich(0), 0);
        Check.due("two are alike: the least", x.rich(1), 1);
        x.turn(2, 3);
        x.alter(2, 1, 1, 3);
        x.alter(2, 3, 1, 3);
        Check.due("the shaky one has more", x.rich(1), 2);
        Check.due("nothing changed", x.now(0), 0);
        Check.due("60 years", x.rich(60), 2);
        Check.due("n 61", x.rich(61), Check.BEYOND);
        Check.due("n -1", x.rich(-1), Check.BEYOND);
        for (int far : Check.FAR) {
            Check.due("far n", x.rich(far), Check.BEYOND);
        }
    }

    public static void main(String[] args) {
        promise16();
        begins();
        cornIsHeld();
        inkIsHeld();
        lastYear();
        promise17();
        promise18();
        promise19();
        promise20();
        Check.end();
    }
}
