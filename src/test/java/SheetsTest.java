/** Promises 32 to 37: sheet, write, copy, lays, book, read. */
public final class SheetsTest {
    private static void promise32() {
        PenAcres x = new PenAcres();
        Check.due("8 bits", x.sheet(0, 8, 40), 40);
        Check.due("16 bits", x.sheet(1, 16, 1), 1);
        Check.due("64 bits", x.sheet(3, 64, 0), 0);
        x.write(0, 0, 4);
        x.write(0, 39, 5);
        Check.due("5 stands there", x.write(0, 39, 6), 5);
        Check.due("anew", x.sheet(0, 8, 40), 40);
        Check.due("all are 0, the first", x.write(0, 0, 0), 0);
        Check.due("all are 0, the last", x.write(0, 39, 7), 0);
        Check.due("sheet 4", x.sheet(4, 8, -1), Check.BEYOND);
        Check.due("sheet -1", x.sheet(-1, 8, 1), Check.BEYOND);
        Check.due("bits 32", x.sheet(0, 32, -1), Check.BEYOND);
        Check.due("bits -8", x.sheet(0, -8, 1), Check.BEYOND);
        Check.due("n -1", x.sheet(0, 8, -1), Check.SIZE);
        Check.due("n -1 of a missing one", x.sheet(0, 0, -1), Check.SIZE);
        Check.due("n 41", x.sheet(0, 8, 41), Check.BEYOND);
        Check.due("n 41 of a missing one", x.sheet(0, 0, 41), Check.BEYOND);
        Check.due("n far", x.sheet(0, 8, Integer.MAX_VALUE), Check.BEYOND);
        Check.due("n far below", x.sheet(0, 8, Integer.MIN_VALUE), Check.SIZE);
        for (int far : Check.FAR) {
            Check.due("far sheet", x.sheet(far, 8, 1), Check.BEYOND);
            Check.due("far bits", x.sheet(0, far, 1), Check.BEYOND);
        }
        Check.due("nothing changed", x.write(0, 39, 7), 7);
        Check.due("missing", x.sheet(0, 0, 40), 0);
        Check.due("it is", x.write(0, 0, 0), Check.MISSING);
        Check.due("sizes counted", x.status(6), 3);
    }

    private static void promise33() {
        PenAcres x = new PenAcres();
        x.sheet(0, 8, 3);
        x.sheet(1, 16, 3);
        x.sheet(2, 64, 3);
        long v = 0x123456789ABCDEF0L;
        for (int s = 0; s < 3; s++) {
            Check.due("0 at first", x.write(s, 2, v), 0);
        }
        Check.due("lowest 8 bits", x.write(0, 2, 127), (byte) 0xF0);
        Check.due("lowest 16 bits", x.write(1, 2, 32767), (short) 0xDEF0);
        Check.due("all 64 bits", x.write(2, 2, Long.MIN_VALUE), v);
        Check.due("127", x.write(0, 2, 128), 127);
        Check.due("32767", x.write(1, 2, 32768), 32767);
        Check.due("the least long", x.write(2, 2, Long.MAX_VALUE), Long.MIN_VALUE);
        Check.due("128 has a sign", x.write(0, 2, 256), -128);
        Check.due("32768 has a sign", x.write(1, 2, 65536), -32768);
        Check.due("256 is 0", x.write(0, 2, 0), 0);
        Check.due("65536 is 0", x.write(1, 2, 0), 0);
        Check.due("others stay", x.write(0, 1, 0), 0);
        Check.due("number 3", x.write(0, 3, 1), Check.BEYOND);
        Check.due("number -1", x.write(0, -1, 1), Check.BEYOND);
        Check.due("sheet 4", x.write(4, 0, 1), Check.BEYOND);
        Check.due("sheet 3", x.write(3, -1, 1), Check.MISSING);
        for (int far : Check.FAR) {
            Check.due("far sheet", x.write(far, 0, 1), Check.BEYOND);
            Check.due("far number", x.write(0, far, 1), Check.BEYOND);
        }
    }

    private static PenAcres rows() {
        PenAcres x = new PenAcres();
        x.sheet(0, 16, 6);
        x.sheet(1, 16, 4);
        x.sheet(2, 64, 6);
        for (int i = 0; i < 6; i++) {
            x.write(0, i, 10 + i);
        }
        return x;
    }

    private static void hold(PenAcres x, int s, long... numbers) {
        for (int i = 0; i < numbers.length; i++) {
            Check.due("number " + i + " of sheet " + s, x.write(s, i, numbers[i]), numbers[i]);
        }
    }

    private static void promise34() {
        PenAcres x = rows();
        Check.due("to another", x.copy(0, 2, 1, 1, 3), 3);
        hold(x, 1, 0, 12, 13, 14);
        hold(x, 0, 10, 11, 12, 13, 14, 15);
        Check.due("up within one", x.copy(0, 0, 0, 1, 5), 5);
        hold(x, 0, 10, 10, 11, 12, 13, 14);
        Check.due("down within one", x.copy(0, 1, 0, 0, 5), 5);
        hold(x, 0, 10, 11, 12, 13, 14, 14);
        x.sheet(3, 16, 6);
        Check.due("a whole sheet", x.copy(0, 0, 3, 0, 6), 6);
        hold(x, 3, 10, 11, 12, 13, 14, 14);
        x.sheet(3, 0, 0);
        Check.due("none, from the end", x.copy(0, 6, 1, 4, 0), 0);
        Check.due("from beyond the end", x.copy(0, 7, 1, 0, 0), Check.BEYOND);
        Check.due("to beyond the end", x.copy(0, 0, 1, 5, 0), Check.BEYOND);
        Check.due("not so many to take", x.copy(0, 4, 1, 0, 3), Check.BEYOND);
        Check.due("not so many to come to", x.copy(0, 0, 1, 2, 3), Check.BEYOND);
        Check.due("from below", x.copy(0, -1, 1, 0, 1), Check.BEYOND);
        Check.due("to below", x.copy(0, 0, 1, -1, 1), Check.BEYOND);
        Check.due("n below", x.copy(0, 0, 1, 0, -1), Check.BEYOND);
        for (int far : Check.FAR) {
            Check.due("far sheet", x.copy(far, 0, 1, 0, 1), Check.BEYOND);
            Check.due("far other", x.copy(0, 0, far, 0, 1), Check.BEYOND);
            Check.due("far from", x.copy(0, far, 1, 0, 1), Check.BEYOND);
            Check.due("far to", x.copy(0, 0, 1, far, 1), Check.BEYOND);
            Check.due("far n", x.copy(0, 1, 1, 1, far), Check.BEYOND);
        }
        Check.due("other bits", x.copy(0, 0, 2, 0, 1), Check.KIND);
        Check.due("other bits before beyond", x.copy(0, 99, 2, 0, 1), Check.KIND);
        Check.due("missing", x.copy(3, 0, 0, 0, 1), Check.MISSING);
        Check.due("missing, the other", x.copy(0, 0, 3, 0, 1), Check.MISSING);
        Check.due("both missing", x.copy(3, 0, 3, 0, 1), Check.MISSING);
        Check.due("beyond before missing", x.copy(3, 0, 4, 0, 1), Check.BEYOND);
        Check.due("beyond before missing, too", x.copy(4, 0, 3, 0, 1), Check.BEYOND);
        hold(x, 1, 0, 12, 13, 14);
        hold(x, 0, 10, 11, 12, 13, 14, 14);
    }

    private static void promise35() {
        PenAcres x = Lands.twoRings();
        x.hand(3, 5);
        x.sheet(0, 64, 5);
        hold(x, 0);
        x.write(0, 0, 999);
        x.write(0, 1, 1000);
        x.write(0, 2, 0);
        x.write(0, 3, 77);
        Check.due("two came", x.lays(0), 2);
        Check.due("999", x.of(0, 2), 999);
        Check.due("1000 is left out", x.of(1, 2), 30);
        Check.due("0", x.of(2, 2), 0);
        x.write(0, 0, -1);
        x.write(0, 1, 1L << 32);
        x.write(0, 2, Long.MIN_VALUE);
        Check.due("none came", x.lays(0), 0);
        Check.due("all as it was", x.now(2), 999 + 30);
        x.sheet(1, 8, 2);
        x.write(1, 0, 200);
        x.write(1, 1, 100);
        Check.due("200 of 8 bits is below 0", x.lays(1), 1);
        Check.due("999 still", x.of(0, 2), 999);
        Check.due("100", x.of(1, 2), 100);
        x.sheet(2, 16, 0);
        Check.due("no numbers", x.lays(2), 0);
        Check.due("missing", x.lays(3), Check.MISSING);
        Check.due("sheet 4", x.lays(4), Check.BEYOND);
        Check.due("sheet -1", x.lays(-1), Check.BEYOND);
        for (int far : Check.FAR) {
            Check.due("far sheet", x.lays(far), Check.BEYOND);
        }
    }

    private static void promise36() {
        PenAcres x = Lands.twoRings();
        x.years(1);
        String before = Lands.all(x);
        x.sheet(0, 16, 4);
        Check.due("a book", x.book(0, 0), 4);
        hold(x, 0, 12, 24, 36, 36);
        for (int n = 0; n < 4; n++) {
            Check.due("as on tells", x.on(0, n, 1), new int[] {12, 24, 36, 36}[n]);
        }
        Check.due("nothing changed", before.equals(Lands.all(x)) ? 1 : 0, 1);
        x.sheet(1, 64, 0);
        Check.due("no numbers", x.book(1, 0), 0);
        Check.due("hand 2", x.book(0, 2), Check.BEYOND);
        Check.due("hand -1", x.book(0, -1), Check.BEYOND);
        Check.due("missing before hand", x.book(3, 2), Check.MISSING);
        Check.due("sheet 4", x.book(4, 0), Check.BEYOND);
        for (int far : Check.FAR) {
            Check.due("far sheet", x.book(far, 0), Check.BEYOND);
            Check.due("far hand", x.book(0, far), Check.BEYOND);
        }
        hold(x, 0, 12, 24, 36, 36);
        // 48 a year: in a sheet of 8 bits its lowest bits.
        PenAcres y = new PenAcres();
        Lands.ring(y, 0, 7, 5);
        y.sheet(0, 8, 7);
        y.book(0, 0);
        hold(y, 0, 0, 48, 96, (byte) 144, (byte) 192, (byte) 240, (byte) 288);
    }

    /** "CORN of a HAND ON 0, 1, 2, .. YEARS .. as many as it has numbers": as on() tells each. */
    private static void wholeBook() {
        PenAcres x = Lands.twoRings();
        x.smudge(10, 1);
        x.smudge(11, 1);
        x.years(3);
        x.sheet(3, 64, 40);
        Check.due("40", x.book(3, 1), 40);
        for (int n = 0; n < 40; n++) {
            Check.due("number " + n, x.write(3, n, 0), x.on(1, n, 1));
        }
        x.sheet(3, 64, 1);
        x.write(3, 0, 77);
        Check.due("one", x.book(3, 0), 1);
        Check.due("what it has", x.write(3, 0, 0), x.of(0, 3));
        // At the last year a book can be kept all the same: nothing goes but ON.
        PenAcres y = new PenAcres();
        y.hand(0, 0);
        for (int i = 0; i < 166; i++) {
            y.years(60);
        }
        y.years(39);
        y.sheet(0, 64, 40);
        Check.due("a book in year 9999", y.book(0, 0), 40);
        Check.due("read in year 9999", y.read(0, 0), 288);
        Check.due("year 9999", y.now(0), 9999);
    }

    /** "(those that aren't 0 to 999, or stand for none, are left out)". */
    private static void laysEdges() {
        long[] numbers = {-1, 0, 1, 999, 1000, 1001};
        for (int bits : new int[] {8, 16, 64}) {
            PenAcres x = new PenAcres();
            x.sheet(0, bits, 40);
            Check.due("no hands", x.lays(0), 0);
            for (int hand = 0; hand < 6; hand++) {
                x.hand(0, 0);
                x.write(0, hand, numbers[hand]);
            }
            int came = 0;
            int[] inks = new int[6];
            for (int hand = 0; hand < 6; hand++) {
                long number = bits == 8 ? (byte) numbers[hand] : numbers[hand];
                boolean comes = number >= 0 && number <= 999;
                inks[hand] = comes ? (int) number : 30;
                came += comes ? 1 : 0;
            }
            Check.due("came of " + bits + " bits", x.lays(0), came);
            for (int hand = 0; hand < 6; hand++) {
                Check.due("ink of " + hand, x.of(hand, 2), inks[hand]);
            }
            x.sheet(0, bits, 2);
            x.write(0, 1, 5);
            Check.due("two numbers", x.lays(0), 2);
            Check.due("ink of 0 then", x.of(0, 2), 0);
            Check.due("ink of 1 then", x.of(1, 2), 5);
            Check.due("a hand without a number keeps its ink", x.of(2, 2), inks[2]);
        }
    }

    /** "becomes v (its lowest bits)": around the ends of 8, 16 and 64 bits. */
    private static void lowestBits() {
        long[] ends = {0, 1, -1, 127, 128, 129, 255, 256, 257, -127, -128, -129, 32767, 32768, 32769, 65535, 65536,
            65537, -32767, -32768, -32769, Integer.MAX_VALUE, Integer.MIN_VALUE, 1L << 32, Long.MAX_VALUE, Long.MIN_VALUE};
        PenAcres x = new PenAcres();
        x.sheet(0, 8, 1);
        x.sheet(1, 16, 1);
        x.sheet(2, 64, 1);
        for (long v : ends) {
            x.write(0, 0, v);
            x.write(1, 0, v);
            x.write(2, 0, v);
            Check.due("8 bits of " + v, x.write(0, 0, 0), (byte) v);
            Check.due("16 bits of " + v, x.write(1, 0, 0), (short) v);
            Check.due("64 bits of " + v, x.write(2, 0, 0), v);
        }
    }

    /** "n numbers of a sheet from one on come to another one from one on (as they all were)". */
    private static void copyAll() {
        for (int from = 0; from <= 6; from++) {
            for (int to = 0; to <= 6; to++) {
                for (int n = 0; n <= 7; n++) {
                    PenAcres x = rows();
                    boolean fits = from + n <= 6 && to + n <= 6;
                    Check.due("within one " + from + " " + to + " " + n, x.copy(0, from, 0, to, n), fits ? n : Check.BEYOND);
                    for (int i = 0; i < 6; i++) {
                        long want = fits && i >= to && i < to + n ? 10 + from + i - to : 10 + i;
                        Check.due("number " + i, x.write(0, i, 0), want);
                    }
                }
            }
        }
    }

    private static void promise37() {
        PenAcres x = new PenAcres();
        x.hand(0, 9);
        Lands.strokes(x, 0, 1, 2, 2, 2, 3, 2, 0, 2);
        x.sheet(0, 64, 2);
        x.book(0, 0);
        // Corn 0, 2: each pair that has just that is looked for on a land of its own.
        int pairs = x.read(0, 0);
        int found = 0;
        String before = Lands.all(x);
        for (int k = 0; k < 6; k++) {
            for (int cell = 0; cell < 48; cell++) {
                PenAcres y = new PenAcres();
                y.hand(k, cell);
                Lands.strokes(y, 0, 1, 2, 2, 2, 3, 2, 0, 2);
                found += y.years(1) == 2 ? 1 : 0;
            }
        }
        Check.due("as many as are so", pairs, found);
        Check.due("a hand's in 4 rows of 6 cells are among them", found >= 24 ? 1 : 0, 1);
        Check.due("nothing changed", before.equals(Lands.all(x)) ? 1 : 0, 1);
        x.write(0, 1, 500);
        Check.due("nobody has so much", x.read(0, 0), 0);
        x.write(0, 0, 1);
        Check.due("the corn it has is told first", x.read(0, 0), 0);
        x.sheet(1, 16, 0);
        Check.due("no numbers: all", x.read(1, 0), 288);
        x.sheet(1, 8, 1);
        Check.due("none yet: all", x.read(1, 0), 288);
        Check.due("hand 1", x.read(0, 1), Check.BEYOND);
        Check.due("hand -1", x.read(0, -1), Check.BEYOND);
        Check.due("missing before hand", x.read(3, 1), Check.MISSING);
        Check.due("sheet 4", x.read(4, 0), Check.BEYOND);
        for (int far : Check.FAR) {
            Check.due("far sheet", x.read(far, 0), Check.BEYOND);
            Check.due("far hand", x.read(0, far), Check.BEYOND);
        }
        // Numbers are corn itself, not its lowest bits: 48 a year is above 127 in the third year.
        PenAcres y = new PenAcres();
        Lands.ring(y, 0, 7, 5);
        y.sheet(0, 8, 3);
        y.book(0, 0);
        Check.due("just so", y.read(0, 0) > 0 ? 1 : 0, 1);
        y.sheet(0, 8, 4);
        y.book(0, 0);
        Check.due("cut", y.read(0, 0), 0);
    }

    private static PenAcres among() {
        PenAcres x = Lands.twoRings();
        x.smudge(19, 1);
        x.smudge(44, 1);
        x.set(0, 2, 40);
        return x;
    }

    /** "how many pairs of a KIND and a CELL that it is AT make it just so": each pair tried by calls. */
    private static void readAmongOthers() {
        for (int size = 1; size <= 5; size++) {
            PenAcres x = among();
            x.sheet(0, 64, size);
            x.book(0, 1);
            int found = 0;
            for (int kind = 0; kind < 6; kind++) {
                for (int cell = 0; cell < 48; cell++) {
                    PenAcres y = among();
                    y.turn(1, kind);
                    y.set(1, 1, cell);
                    boolean so = true;
                    for (int n = 0; n < size; n++) {
                        so &= y.on(1, n, 1) == x.on(1, n, 1);
                    }
                    found += so ? 1 : 0;
                }
            }
            Check.due("pairs for " + size + " numbers", x.read(0, 1), found);
            Check.due("its own pair is among them", found >= 1 ? 1 : 0, 1);
            long last = x.write(0, size - 1, 0);
            x.write(0, size - 1, last + 1);
            Check.due("one more corn in the last year", x.read(0, 1), 0);
        }
    }

    public static void main(String[] args) {
        promise32();
        promise33();
        promise34();
        promise35();
        promise36();
        lowestBits();
        copyAll();
        laysEdges();
        wholeBook();
        promise37();
        readAmongOthers();
        Check.end();
    }
}
