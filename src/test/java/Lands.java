/** Lands that several tests begin with. */
final class Lands {
    private Lands() {
    }

    /** Strokes of a hand: ways and lengths in turn. */
    static void strokes(PenAcres x, int hand, int... waysAndLengths) {
        for (int i = 0; i + 1 < waysAndLengths.length; i += 2) {
            x.stroke(hand, waysAndLengths[i], waysAndLengths[i + 1]);
        }
    }

    /** A new hand of kind HAND whose line is a ring from a cell on, right, down, left and up. */
    static int ring(PenAcres x, int cell, int wide, int high) {
        int hand = x.hand(0, cell);
        strokes(x, hand, 1, wide, 2, high, 3, wide, 0, high);
        return hand;
    }

    /** Hand 0 around 18 19 20 26 27 28 (cost 14) and hand 1 around 27 28 29 35 36 37 (cost 14). */
    static PenAcres twoRings() {
        PenAcres x = new PenAcres();
        ring(x, 9, 4, 3);
        ring(x, 18, 4, 3);
        return x;
    }

    /** All that a land tells of itself, so that one can see whether anything changed. */
    static String all(PenAcres x) {
        StringBuilder b = new StringBuilder();
        for (int what = 0; what <= 4; what++) {
            b.append(x.now(what)).append(' ');
        }
        for (int what = 0; what <= 3; what++) {
            b.append(x.count(what)).append(' ');
        }
        b.append(x.cells(0)).append(' ');
        for (int hand = 0; hand < x.count(0); hand++) {
            for (int what = 0; what <= 5; what++) {
                b.append(x.of(hand, what)).append(' ');
            }
            for (int stroke = 0; stroke < x.of(hand, 4); stroke++) {
                b.append(x.told(hand, stroke, 0)).append(x.told(hand, stroke, 1)).append(' ');
            }
        }
        return b.toString();
    }
}
