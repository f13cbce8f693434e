/** The document's Terms, sentence by sentence, at their edges; each method quotes its sentence. */
public final class TermsTest {
    /** The 24 cells that are not of the edge. */
    private static final long MIDDLE = 0x7E7E7E7E00L;

    /** A new land with one hand and its strokes, ways and lengths in turn. */
    private static PenAcres one(int kind, int cell, int... waysAndLengths) {
        PenAcres x = new PenAcres();
        x.hand(kind, cell);
        Lands.strokes(x, 0, waysAndLengths);
        return x;
    }

    /** "Quotients are cut." */
    private static void quotientsAreCut() {
        int[] halves = {1, 1, 1, 2, 2, 3, 3};
        for (int length = 1; length <= 7; length++) {
            Check.due("half of " + length, one(1, 0, 1, length).told(0, 0, 2), halves[length - 1]);
        }
        Check.due("half of a duke's 2", one(5, 0).of(0, 9), 1);
    }

    /** "CELLS 0 to 47, in 6 rows (row: by 8) of 8 (column: the rest)"; "Sets are told by bits." */
    private static void cellsAreBits() {
        for (int cell = 0; cell < 48; cell++) {
            PenAcres x = one(0, cell);
            Check.due("line at " + cell, x.line(0), 1L << cell);
            Check.due("on it", x.cell(cell, 1), 1);
            x.smudge(cell, 1);
            Check.due("smudged " + cell, x.cells(0), 1L << cell);
            Check.due("one alone", x.now(4), 1);
        }
        PenAcres x = new PenAcres();
        for (int cell = 0; cell < 48; cell++) {
            Check.due("not yet", x.smudge(cell, 1), 0);
        }
        Check.due("all", x.cells(0), 0xFFFFFFFFFFFFL);
        Check.due("48", x.now(4), 48);
        PenAcres y = new PenAcres();
        for (int hand = 0; hand < 6; hand++) {
            Lands.ring(y, 9, 2, 2);
            Check.due("lines of " + hand, y.cell(9, 1), (2 << hand) - 1);
            Check.due("inside of " + hand, y.cell(18, 2), (2 << hand) - 1);
            Check.due("writing", y.now(3), (2 << hand) - 1);
            Check.due("none is inside of the line itself", y.cell(9, 2), 0);
            Check.due("no line inside", y.cell(18, 1), 0);
        }
    }

    /** "WAYS: 0 up a row, 1 right, 2 down a row, 3 left"; "a step off THE FIELD isn't taken". */
    private static void stepsOff() {
        int[] by = {-8, 1, 8, -1};
        for (int cell = 0; cell < 48; cell++) {
            for (int way = 0; way < 4; way++) {
                boolean off = way == 0 && cell < 8 || way == 1 && cell % 8 == 7
                    || way == 2 && cell >= 40 || way == 3 && cell % 8 == 0;
                PenAcres x = one(0, cell, way, 1);
                long want = off ? 1L << cell : 1L << cell | 1L << (cell + by[way]);
                Check.due("from " + cell + " way " + way, x.line(0), want);
                Check.due("its cost", x.of(0, 5), off ? 0 : 1);
            }
        }
        PenAcres x = one(0, 7, 0, 7, 1, 7, 3, 1);
        Check.due("writing goes on behind steps off", x.line(0), Check.set(6, 7));
        Check.due("for one step", x.of(0, 5), 1);
        x = one(2, 0, 1, 7, 2, 7, 3, 7, 0, 7);
        Check.due("a duke's eighth steps are off", x.of(0, 5), 24);
        Check.due("all around", x.inside(0), MIDDLE);
    }

    /** "BESIDE a CELL: those up, right, down, left of it that there are." */
    private static void beside() {
        PenAcres x = new PenAcres();
        // All cells: right along each row, from two hands each.
        x.hand(0, 0);
        Lands.strokes(x, 0, 1, 7, 2, 1, 3, 7, 2, 1, 1, 7, 2, 1, 3, 7);
        Check.due("four rows", x.line(0), 0xFFFFFFFFL);
        for (int from = 0; from < 32; from++) {
            for (int to = 0; to < 32; to++) {
                int steps = Math.abs(from / 8 - to / 8) + Math.abs(from % 8 - to % 8);
                if (steps <= 1 || from + 1 == to) {
                    Check.due("from " + from + " to " + to, x.way(0, from, to), steps);
                }
            }
        }
        PenAcres around = one(0, 0, 1, 7, 2, 5, 3, 7, 0, 5);
        Check.due("to the corner below", around.way(0, 39, 47), 1);
        Check.due("from it", around.way(0, 47, 46), 1);
        Check.due("over it", around.way(0, 39, 46), 2);
        Check.due("over the first", around.way(0, 8, 1), 2);
        Check.due("over the second", around.way(0, 6, 15), 2);
        Check.due("over the third", around.way(0, 32, 41), 2);
        Check.due("no row goes on in the next", around.way(0, 7, 8), 8);
        Check.due("half around", around.way(0, 0, 47), 12);
        // 18 and 27 touch at a corner alone, and 27 is all that is left beside none.
        PenAcres slant = one(0, 18, 1, 1, 2, 1);
        slant.smudge(19, 1);
        Check.due("slantwise is not beside", slant.way(0, 18, 27), Check.NONE);
    }

    /** "THE EDGE: CELLS in rows 0, 5, columns 0, 7." */
    private static void edge() {
        for (int cell = 0; cell < 48; cell++) {
            int row = cell / 8;
            int column = cell % 8;
            boolean ofEdge = row == 0 || row == 5 || column == 0 || column == 7;
            boolean corner = (row == 0 || row == 5) && (column == 0 || column == 7);
            PenAcres x = one(0, 0, 1, 7, 2, 5, 3, 7, 0, 5);
            x.smudge(cell, 1);
            Check.due("edge open at " + cell, x.inside(0), ofEdge && !corner ? 0 : MIDDLE);
            // A pond of that cell alone: what is of the edge is never inside, walled in or not.
            if (!corner) {
                PenAcres y = wallsAround(cell);
                Check.due("walled in: " + cell, y.inside(0) >> cell & 1, ofEdge ? 0 : 1);
            }
        }
        PenAcres x = one(0, 1, 3, 1, 2, 1);
        x.smudge(0, 1);
        Check.due("a walled in corner is not inside", x.inside(0), 0);
    }

    /** A hand that goes around a cell as far as there is field. */
    private static PenAcres wallsAround(int cell) {
        int row = cell / 8;
        int column = cell % 8;
        int top = Math.max(0, row - 1);
        int first = Math.max(0, column - 1);
        int high = Math.min(5, row + 1) - top;
        int wide = Math.min(7, column + 1) - first;
        PenAcres x = one(0, 8 * top + first, 1, wide, 2, high, 3, wide, 0, high);
        if (row == 0 || row == 5 || column == 0 || column == 7) {
            x.smudge(cell, 1);
        }
        return x;
    }

    /** "SMUDGED: a set of CELLS (none at first). YEAR: 0 at first (9999 at most)." */
    private static void atFirst() {
        PenAcres x = new PenAcres();
        Check.due("none smudged", x.cells(0), 0);
        Check.due("year 0", x.now(0), 0);
        Check.due("years are counted without hands, too", x.years(60), 0);
        Check.due("year 60", x.now(0), 60);
        Check.due("one more", x.years(1), 0);
        Check.due("year 61", x.now(0), 61);
    }

    /** "HANDS 0, 1, .. (at most 6)"; "up to 8 STROKES 0, 1, .. (none at first)"; "(0 to 999; 30 at first)". */
    private static void atMost() {
        PenAcres x = new PenAcres();
        for (int hand = 0; hand < 6; hand++) {
            Check.due("a hand", x.hand(5 - hand, 8 * hand), hand);
            Check.due("no stroke", x.told(hand, 0, 0), Check.BEYOND);
            Check.due("ink", x.of(hand, 2), 30);
            Check.due("corn", x.of(hand, 3), 0);
            for (int i = 0; i < 8; i++) {
                Check.due("a stroke", x.stroke(hand, (hand + i) % 4, 1 + (hand + i) % 7), i + 1);
            }
            Check.due("a 9th", x.stroke(hand, 0, 1), Check.FULL);
        }
        Check.due("a 7th", x.hand(0, 0), Check.FULL);
        for (int hand = 0; hand < 6; hand++) {
            for (int i = 0; i < 8; i++) {
                Check.due("way", x.told(hand, i, 0), (hand + i) % 4);
                Check.due("length", x.told(hand, i, 1), 1 + (hand + i) % 7);
            }
        }
        Check.due("strokes of all", x.count(2), 48);
        Check.due("after a cut there is room", x.cut(5, 7), 8);
        Check.due("for one", x.stroke(5, 0, 1), 8);
        Check.due("alone", x.stroke(5, 0, 1), Check.FULL);
    }

    /** "MISER: half of as HAND (1 at least)"; "SHAKY: .. (1 at least)"; "HEIR: as MISER, and 1, if i is 0". */
    private static void stepsAtLeast() {
        int[][] first = {{1, 2, 7}, {1, 1, 3}, {2, 3, 8}, {1, 2, 7}, {2, 2, 4}, {2, 3, 8}};
        int[][] second = {{1, 2, 7}, {1, 1, 3}, {2, 3, 8}, {1, 1, 6}, {1, 1, 3}, {2, 3, 8}};
        int[] lengths = {1, 2, 7};
        for (int kind = 0; kind < 6; kind++) {
            for (int l = 0; l < 3; l++) {
                PenAcres x = one(kind, 0);
                for (int i = 0; i < 8; i++) {
                    x.stroke(0, 1, lengths[l]);
                }
                for (int i = 0; i < 8; i++) {
                    int even = kind == 3 ? first[kind][l] : second[kind][l];
                    int want = i == 0 ? first[kind][l] : i % 2 == 0 ? even : second[kind][l];
                    Check.due("kind " + kind + " stroke " + i + " length " + lengths[l], x.told(0, i, 2), want);
                }
            }
        }
    }

    /** "LEFT: right for left, left for right, others as DUKE." */
    private static void turns() {
        for (int kind = 0; kind < 6; kind++) {
            for (int way = 0; way < 4; way++) {
                PenAcres x = one(kind, 20, way, 1);
                int want = kind == 5 && way % 2 == 1 ? 4 - way : way;
                Check.due("kind " + kind + " way " + way, x.told(0, 0, 3), want);
                Check.due("its way stays", x.told(0, 0, 0), way);
            }
        }
        Check.due("a left one goes left", one(5, 20, 1, 1).line(0), Check.set(18, 19, 20));
        Check.due("and right", one(5, 20, 3, 1).line(0), Check.set(20, 21, 22));
        Check.due("and up as a duke", one(5, 20, 0, 1).line(0), Check.set(4, 12, 20));
    }

    /** "LINE: AT and all CELLS come to, less those SMUDGED. COST: how many steps are taken." */
    private static void lineAndCost() {
        PenAcres x = one(0, 20, 1, 2, 3, 2, 1, 2);
        Check.due("to and fro", x.line(0), Check.set(20, 21, 22));
        Check.due("each step counts", x.of(0, 5), 6);
        x.smudge(20, 1);
        x.smudge(21, 1);
        x.smudge(22, 1);
        Check.due("all smudged", x.line(0), 0);
        Check.due("its cost stays", x.of(0, 5), 6);
        x.smudge(21, 0);
        Check.due("one dried", x.line(0), Check.set(21));
        Check.due("no strokes, no cost", one(2, 20).of(0, 5), 0);
    }

    /** "A HAND WRITES, if INK is COST or more." */
    private static void writes() {
        PenAcres x = one(0, 9, 1, 2, 2, 2, 3, 2, 0, 2);
        int[] inks = {0, 7, 8, 9, 999};
        for (int ink : inks) {
            x.set(0, 2, ink);
            int want = ink >= 8 ? 1 : 0;
            Check.due("with ink " + ink, x.of(0, 6), want);
            Check.due("the set", x.now(3), want);
            Check.due("owned", x.cells(2), want == 1 ? Check.set(18) : 0);
            Check.due("by", x.cell(18, 3), want - 1);
            Check.due("how many", x.of(0, 8), want);
            Check.due("inside all the same", x.inside(0), Check.set(18));
        }
        PenAcres bare = one(0, 9);
        bare.set(0, 2, 0);
        Check.due("without cost or ink", bare.of(0, 6), 1);
    }

    /** "OWNED by .. the one with most INK; of several the least." */
    private static void owners() {
        PenAcres x = new PenAcres();
        for (int hand = 0; hand < 6; hand++) {
            Lands.ring(x, 9, 2, 2);
        }
        Check.due("of six the least", x.cell(18, 3), 0);
        for (int hand = 5; hand >= 0; hand--) {
            x.set(hand, 2, 31);
            Check.due("most ink, or the least of these", x.cell(18, 3), hand);
            Check.due("it owns one", x.of(hand, 8), 1);
        }
        x.set(4, 2, 999);
        Check.due("the richest in ink", x.cell(18, 3), 4);
        int owned = 0;
        for (int hand = 0; hand < 6; hand++) {
            owned += x.of(hand, 8);
        }
        Check.due("one owner alone", owned, 1);
        Check.due("with all six nobody's", x.cell(0, 3), -1);
        Check.due("with all six owned", x.cells(2), Check.set(18));
        Check.due("with all six disputed", x.cells(1), Check.set(18));
        Check.due("with all six writing", x.now(3), 63);
        Check.due("ink of all six", x.now(2), 5 * 31 + 999);
        Check.due("costs of all six", x.count(3), 48);
        Check.due("a year of all six", x.years(1), 2);
        Check.due("corn of all six", x.now(1), 2);
        Check.due("the richest of six", x.rich(0), 4);
    }

    /** "DISPUTED: CELLS INSIDE of the LINES of two or more that WRITE." */
    private static void disputed() {
        PenAcres x = new PenAcres();
        Check.due("no hands", x.cells(1), 0);
        Lands.ring(x, 9, 2, 2);
        Check.due("one alone", x.cells(1), 0);
        Lands.ring(x, 9, 3, 2);
        Check.due("two", x.cells(1), Check.set(18));
        Lands.ring(x, 9, 2, 2);
        Check.due("three", x.cells(1), Check.set(18));
        x.set(1, 2, 9);
        Check.due("two that write are left", x.cells(1), Check.set(18));
        x.set(2, 2, 7);
        Check.due("one that writes is left", x.cells(1), 0);
        x.set(2, 2, 8);
        Check.due("two again", x.cells(1), Check.set(18));
    }

    /** Answers go by what is so now, whichever call is the first to ask. */
    private static void asked() {
        PenAcres x = Lands.twoRings();
        x.set(0, 2, 13);
        Check.due("owned, asked first", x.cells(2), Check.set(27, 28, 29, 35, 36, 37));
        x.set(1, 2, 13);
        Check.due("nothing owned", x.cells(2), 0);
        x.set(0, 2, 14);
        Check.due("one owner", x.cell(28, 3), 0);
        x.set(1, 2, 14);
        Check.due("disputed", x.cells(1), Check.set(27, 28));
        x.set(0, 1, 17);
        Check.due("four of six are of the other one now", x.of(1, 8), 2);
        x.smudge(18, 1);
        Check.due("a corner of 1, but a side of 0", x.cells(2), Check.set(27, 28, 29, 35, 36, 37));
    }

    /** "each HAND that WRITES has COST less INK, then as much more as CELLS that it OWNS (999 at most)". */
    private static void inkOfAYear() {
        // Cost 8, one cell: with 8 ink it has 1 then.
        PenAcres x = one(0, 9, 1, 2, 2, 2, 3, 2, 0, 2);
        x.set(0, 2, 8);
        Check.due("corn", x.years(1), 2);
        Check.due("ink is out but for what it owned", x.of(0, 2), 1);
        Check.due("at rest no corn", x.years(1), 2);
        Check.due("five more", x.of(0, 2), 6);
        x.set(0, 2, 7);
        Check.due("one too little: no corn", x.years(1), 2);
        Check.due("five more than 7", x.of(0, 2), 12);
        // 24 cells at a cost of 22: cost goes off first, then it's held.
        PenAcres y = one(0, 1, 1, 6, 2, 5, 3, 7, 0, 4);
        int[] inks = {996, 997, 998, 999};
        int[] then = {998, 999, 999, 999};
        for (int i = 0; i < inks.length; i++) {
            y.set(0, 2, inks[i]);
            y.years(1);
            Check.due("a year of " + inks[i], y.of(0, 2), then[i]);
        }
        // One that owns nothing pays all the same.
        PenAcres z = one(0, 0, 1, 7);
        z.set(0, 2, 7);
        z.years(1);
        Check.due("all paid", z.of(0, 2), 0);
        z.years(1);
        Check.due("at rest", z.of(0, 2), 5);
        z.years(1);
        Check.due("at rest still", z.of(0, 2), 10);
        z.years(1);
        Check.due("it wrote", z.of(0, 2), 3);
    }

    /** "CORN more: CROP for each of these"; "CORN (0 at first, held to 99999)". */
    private static void cornOfAYear() {
        int[] crops = {2, 4, 2, 3, 3, 1};
        int[][] lengths = {
            {2, 2, 2, 2}, {4, 4, 4, 4}, {1, 1, 1, 1}, {2, 3, 2, 3}, {2, 4, 4, 4}, {1, 1, 1, 1}
        };
        for (int kind = 0; kind < 6; kind++) {
            PenAcres x = one(kind, kind == 5 ? 11 : 9);
            for (int i = 0; i < 4; i++) {
                x.stroke(0, (i + 1) % 4, lengths[kind][i]);
            }
            Check.due("one cell of kind " + kind, x.of(0, 8), 1);
            Check.due("corn of kind " + kind, x.years(1), crops[kind]);
            Check.due("a year more", x.on(0, 1, 1), 2 * crops[kind]);
        }
        // 24 cells at a cost of 24: 48 corn a year, 2083 years for 99984, held in the next.
        PenAcres x = one(0, 0, 1, 7, 2, 5, 3, 7, 0, 5);
        for (int i = 0; i < 34; i++) {
            x.years(60);
        }
        Check.due("2083 years", x.years(43), 99984);
        Check.due("on one it's held", x.on(0, 1, 1), 99999);
        Check.due("held", x.years(1), 99999);
        Check.due("held still", x.years(60), 99999);
        Check.due("of it", x.of(0, 3), 99999);
        int other = x.hand(0, 0);
        x.set(0, 2, 0);
        Lands.strokes(x, other, 1, 7, 2, 5, 3, 7, 0, 5);
        Check.due("each is held by itself", x.years(1), 99999 + 48);
    }

    /** "Then the least SMUDGED CELL isn't any more. YEAR is 1 more." */
    private static void leastDries() {
        PenAcres x = new PenAcres();
        int[] cells = {0, 1, 7, 8, 31, 32, 33, 47};
        for (int cell : cells) {
            x.smudge(cell, 1);
        }
        long left = Check.set(cells);
        for (int i = 0; i < cells.length; i++) {
            x.years(1);
            left &= ~(1L << cells[i]);
            Check.due("dried: " + cells[i], x.cells(0), left);
            Check.due("year", x.now(0), i + 1);
        }
        x.years(1);
        Check.due("none to dry", x.cells(0), 0);
        x.smudge(0, 1);
        x.years(1);
        Check.due("0 alone", x.cells(0), 0);
        x.smudge(46, 1);
        x.smudge(47, 1);
        x.years(2);
        Check.due("both of two in two", x.cells(0), 0);
    }

    /** "ON: n YEARS go on with all as it is; nothing changes." */
    private static void onIsAsYears() {
        for (int n = 0; n <= 60; n++) {
            PenAcres x = Lands.twoRings();
            x.smudge(10, 1);
            x.smudge(44, 1);
            PenAcres y = Lands.twoRings();
            y.smudge(10, 1);
            y.smudge(44, 1);
            if (n > 0) {
                y.years(n);
            }
            String before = Lands.all(x);
            for (int hand = 0; hand < 2; hand++) {
                Check.due("ink on " + n, x.on(hand, n, 0), y.of(hand, 2));
                Check.due("corn on " + n, x.on(hand, n, 1), y.of(hand, 3));
                Check.due("owned on " + n, x.on(hand, n, 2), y.of(hand, 8));
            }
            Check.due("rich on " + n, x.rich(n), y.of(1, 3) > y.of(0, 3) ? 1 : 0);
            Check.due("nothing changes", before.equals(Lands.all(x)) ? 1 : 0, 1);
        }
    }

    /** "SHEETS 0 to 3 are rows of at most 40 numbers of 8, 16 or 64 bits, or MISSING (at first)." */
    private static void sheets() {
        int[] bits = {8, 16, 64};
        for (int s = 0; s < 4; s++) {
            for (int b : bits) {
                PenAcres x = new PenAcres();
                Check.due("missing at first", x.write(s, 0, 1), Check.MISSING);
                Check.due("40 numbers", x.sheet(s, b, 40), 40);
                for (int i = 0; i < 40; i++) {
                    Check.due("0 at first", x.write(s, i, i + 1), 0);
                }
                for (int i = 0; i < 40; i++) {
                    Check.due("as it was written", x.write(s, i, 0), i + 1);
                }
                Check.due("no 41st", x.write(s, 40, 1), Check.BEYOND);
                Check.due("fewer", x.sheet(s, b, 1), 1);
                Check.due("no second", x.write(s, 1, 1), Check.BEYOND);
                Check.due("none", x.sheet(s, b, 0), 0);
                Check.due("no first", x.write(s, 0, 1), Check.BEYOND);
                Check.due("missing again", x.sheet(s, 0, 5), 0);
                Check.due("it is", x.write(s, 0, 1), Check.MISSING);
            }
        }
    }

    /** "An object is used for at most 512 calls": two objects share nothing, either. */
    private static void objects() {
        PenAcres x = Lands.twoRings();
        PenAcres y = new PenAcres();
        y.hand(5, 0);
        y.smudge(9, 1);
        y.sheet(0, 8, 1);
        y.image();
        y.cells(9);
        Check.due("hands", x.count(0), 2);
        Check.due("smudged", x.cells(0), 0);
        Check.due("sheets", x.lays(0), Check.MISSING);
        Check.due("images", x.tear(), 0);
        Check.due("findings", x.status(-1), 1);
    }

    public static void main(String[] args) {
        quotientsAreCut();
        cellsAreBits();
        stepsOff();
        beside();
        edge();
        atFirst();
        atMost();
        stepsAtLeast();
        turns();
        lineAndCost();
        writes();
        owners();
        disputed();
        asked();
        inkOfAYear();
        cornOfAYear();
        leastDries();
        onIsAsYears();
        sheets();
        objects();
        Check.end();
    }
}
