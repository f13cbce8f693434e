import java.util.function.IntFunction;
import java.util.function.Supplier;

/**
 * Terms: "FINDINGS are answers below -1000000000 .. (in longs, too). Each act tells its findings in the
 * order in which they are asked; one that answers a finding changes nothing but status()."
 * Every refusal that a promise names stands here once, each on a land of its own.
 */
public final class FindingsTest {
    private interface Call {
        long on(PenAcres x);
    }

    private static final int FINDINGS = 7;

    /** Something of everything: hands, smudges, a year gone, bytes, sheets, an image that differs. */
    private static PenAcres someLand() {
        PenAcres x = new PenAcres();
        Lands.ring(x, 9, 4, 3);
        x.smudge(44, 1);
        x.image();
        Lands.ring(x, 18, 4, 3);
        x.hand(4, 47);
        x.smudge(7, 1);
        x.years(1);
        x.sheet(0, 16, 3);
        x.write(0, 0, 12);
        x.write(0, 2, -7);
        x.sheet(1, 16, 2);
        x.write(1, 1, 500);
        x.sheet(2, 64, 2);
        x.write(2, 0, Long.MAX_VALUE);
        Check.feed(x, "smudge 12");
        return x;
    }

    private static PenAcres fullLand() {
        PenAcres x = someLand();
        while (x.count(0) < 6) {
            x.hand(2, 20);
        }
        for (int i = 0; i < 8; i++) {
            x.stroke(5, i % 4, 1 + i % 7);
        }
        return x;
    }

    private static PenAcres lateLand(int year) {
        PenAcres x = someLand();
        x.image();
        while (x.now(0) + 60 <= year) {
            x.years(60);
        }
        if (x.now(0) < year) {
            x.years(year - x.now(0));
        }
        return x;
    }

    private static PenAcres emptyLand() {
        PenAcres x = new PenAcres();
        x.smudge(3, 1);
        x.sheet(0, 8, 1);
        return x;
    }

    private static PenAcres fullTape() {
        PenAcres x = someLand();
        while (x.count(1) < 120) {
            x.feed(' ', 1);
        }
        return x;
    }

    private static PenAcres torn() {
        PenAcres x = someLand();
        x.tear();
        return x;
    }

    /** All that can be seen of an object but for status(); it is used up by it. */
    private static String whole(PenAcres x) {
        StringBuilder b = new StringBuilder(Lands.all(x));
        for (int s = 0; s < 4; s++) {
            long was = x.write(s, 0, 0);
            b.append("\nsheet ").append(was);
            for (int i = 1; was != Check.MISSING && was != Check.BEYOND && i <= 40; i++) {
                was = x.write(s, i, 0);
                b.append(' ').append(was);
            }
        }
        b.append("\ntape ").append(x.field()).append(' ').append(x.cells(0));
        b.append("\nimage ").append(x.undo()).append(' ').append(Lands.all(x));
        return b.toString();
    }

    private static int[] counts(PenAcres x) {
        int[] counts = new int[FINDINGS];
        for (int which = 0; which < FINDINGS; which++) {
            counts[which] = x.status(which);
        }
        return counts;
    }

    private static void refused(String name, Supplier<PenAcres> land, Call call, int want) {
        PenAcres x = land.get();
        int[] before = counts(x);
        int all = x.status(-1);
        Check.due(name, call.on(x), want);
        Check.due(name + ": all findings", x.status(-1), all + 1);
        int[] then = counts(x);
        for (int which = 0; which < FINDINGS; which++) {
            boolean its = which == Check.BEYOND - want;
            Check.due(name + ": status(" + which + ")", then[which], before[which] + (its ? 1 : 0));
        }
        Check.due(name + ": nothing else changed", whole(x).equals(whole(land.get())) ? 1 : 0, 1);
    }

    private static void refused(String name, Call call, int want) {
        refused(name, FindingsTest::someLand, call, want);
    }

    private static int[] outside(int least, int most) {
        return new int[] {
            least - 1, least - 2, least - 8, least - 48, least - 64, least - 256, least - 65536,
            Integer.MIN_VALUE, Integer.MIN_VALUE + Math.max(0, least),
            most + 1, most + 2, most + 8, most + 48, most + 64, most + 256, most + 65536, Integer.MAX_VALUE
        };
    }

    /** A number may be just least to most: each of these is no BEYOND, each other one is. */
    private static void range(String name, int least, int most, IntFunction<Call> calls) {
        for (int v = least; v <= most; v++) {
            boolean beyond = calls.apply(v).on(someLand()) == Check.BEYOND;
            Check.due(name + " " + v + " is beyond", beyond ? 1 : 0, 0);
        }
        for (int v : outside(least, most)) {
            refused(name + " " + v, calls.apply(v), Check.BEYOND);
        }
    }

    private static void values() {
        PenAcres x = new PenAcres();
        Check.due("BEYOND", x.of(0, 0), -1000000001L);
        Check.due("NONE", x.undo(), -1000000004L);
        Check.due("MISSING", x.lays(0), -1000000006L);
        Check.due("SIZE", x.sheet(0, 8, -1), -1000000007L);
        x.hand(3, 0);
        Check.due("KIND", x.as(0, 1), -1000000003L);
        for (int i = 0; i < 5; i++) {
            x.hand(0, 0);
        }
        Check.due("FULL", x.hand(0, 0), -1000000002L);
        Check.due("STATE", lateLand(9999).years(1), -1000000005L);
        Check.due("BEYOND in a long: cells", x.cells(3), -1000000001L);
        Check.due("BEYOND in a long: line", x.line(6), -1000000001L);
        Check.due("BEYOND in a long: inside", x.inside(6), -1000000001L);
        Check.due("BEYOND in a long: write", x.write(4, 0, 0), -1000000001L);
        Check.due("MISSING in a long: write", x.write(0, 0, 0), -1000000006L);
    }

    private static void field() {
        range("smudge: cell", 0, 47, v -> x -> x.smudge(v, 1));
        range("smudge: v", 0, 1, v -> x -> x.smudge(3, v));
        range("cell: cell", 0, 47, v -> x -> x.cell(v, 1));
        range("cell: what", 0, 3, v -> x -> x.cell(3, v));
        range("cells: what", 0, 2, v -> x -> x.cells(v));
    }

    private static void hands() {
        range("hand: kind", 0, 5, v -> x -> x.hand(v, 3));
        range("hand: cell", 0, 47, v -> x -> x.hand(1, v));
        range("stroke: hand", 0, 2, v -> x -> x.stroke(v, 1, 1));
        range("stroke: way", 0, 3, v -> x -> x.stroke(1, v, 1));
        range("stroke: length", 1, 7, v -> x -> x.stroke(1, 1, v));
        range("of: hand", 0, 2, v -> x -> x.of(v, 1));
        range("of: what", 0, 9, v -> x -> x.of(1, v));
        range("told: hand", 0, 1, v -> x -> x.told(v, 1, 1));
        range("told: stroke", 0, 3, v -> x -> x.told(1, v, 1));
        range("told: what", 0, 3, v -> x -> x.told(1, 1, v));
        range("set: hand, at", 0, 2, v -> x -> x.set(v, 1, 1));
        range("set: hand, ink", 0, 2, v -> x -> x.set(v, 2, 1));
        range("set: what", 1, 2, v -> x -> x.set(1, v, 1));
        range("set: at", 0, 47, v -> x -> x.set(1, 1, v));
        range("set: ink", 0, 999, v -> x -> x.set(1, 2, v));
        range("alter: hand, way", 0, 1, v -> x -> x.alter(v, 1, 0, 1));
        range("alter: hand, length", 0, 1, v -> x -> x.alter(v, 1, 1, 1));
        range("alter: stroke, way", 0, 3, v -> x -> x.alter(1, v, 0, 1));
        range("alter: stroke, length", 0, 3, v -> x -> x.alter(1, v, 1, 1));
        range("alter: what", 0, 1, v -> x -> x.alter(1, 1, v, 1));
        range("alter: way", 0, 3, v -> x -> x.alter(1, 1, 0, v));
        range("alter: length", 1, 7, v -> x -> x.alter(1, 1, 1, v));
        range("cut: hand", 0, 2, v -> x -> x.cut(v, 0));
        range("cut: n", 0, 4, v -> x -> x.cut(1, v));
        range("turn: hand", 0, 2, v -> x -> x.turn(v, 1));
        range("turn: kind", 0, 5, v -> x -> x.turn(1, v));
        range("as: hand", 0, 2, v -> x -> x.as(v, 0));
        range("as: kind", 0, 5, v -> x -> x.as(1, v));
        range("line: hand", 0, 2, v -> x -> x.line(v));
        range("inside: hand", 0, 2, v -> x -> x.inside(v));
        refused("hand: a 7th", FindingsTest::fullLand, x -> x.hand(1, 3), Check.FULL);
        refused("stroke: a 9th", FindingsTest::fullLand, x -> x.stroke(5, 1, 1), Check.FULL);
        refused("as: a kind beside its own", x -> x.as(2, 2), Check.KIND);
        refused("as: a kind under its own", x -> x.as(1, 1), Check.KIND);
    }

    private static void years() {
        range("years: n", 1, 60, v -> x -> x.years(v));
        range("now: what", 0, 4, v -> x -> x.now(v));
        range("on: hand", 0, 2, v -> x -> x.on(v, 1, 1));
        range("on: n", 0, 60, v -> x -> x.on(1, v, 1));
        range("on: what", 0, 2, v -> x -> x.on(1, 1, v));
        range("dry: hand", 0, 2, v -> x -> x.dry(v));
        range("rich: n", 0, 60, v -> x -> x.rich(v));
        refused("years: above 9999", () -> lateLand(9999), x -> x.years(1), Check.STATE);
        refused("years: above 9999 by one", () -> lateLand(9940), x -> x.years(60), Check.STATE);
        Check.due("years: up to 9999", lateLand(9939).years(60) >= 0 ? 1 : 0, 1);
        refused("dry: it always writes", x -> x.dry(2), Check.NONE);
        refused("rich: no hands", FindingsTest::emptyLand, x -> x.rich(0), Check.NONE);
    }

    private static void help() {
        range("rain: hand", 0, 2, v -> x -> x.rain(v));
        range("longer: hand", 0, 2, v -> x -> x.longer(v));
        range("begin: hand", 0, 2, v -> x -> x.begin(v));
        range("kind: hand", 0, 2, v -> x -> x.kind(v));
        range("ink: hand", 0, 2, v -> x -> x.ink(v));
        range("court: hand", 0, 2, v -> x -> x.court(v, v == 0 ? 1 : 0));
        range("court: other", 0, 2, v -> x -> x.court(v == 0 ? 1 : 0, v));
        range("way: hand", 0, 2, v -> x -> x.way(v, 9, 9));
        range("way: from", 0, 47, v -> x -> x.way(1, v, 18));
        range("way: to", 0, 47, v -> x -> x.way(1, 18, v));
        for (int hand = 0; hand < 3; hand++) {
            int same = hand;
            refused("court: one and the same", x -> x.court(same, same), Check.BEYOND);
        }
        refused("rain: nothing is inside", x -> x.rain(2), Check.NONE);
        refused("longer: no strokes", x -> x.longer(2), Check.NONE);
        refused("way: from isn't on the line", x -> x.way(0, 0, 9), Check.NONE);
        refused("way: to isn't on the line", x -> x.way(0, 9, 0), Check.NONE);
        refused("way: neither is", x -> x.way(0, 0, 0), Check.NONE);
    }

    private static void text() {
        range("feed: n", 1, 4, v -> x -> x.feed(0x20202020, v));
        refused("feed: one more than 120", FindingsTest::fullTape, x -> x.feed(' ', 1), Check.FULL);
        refused("feed: four more than 120", FindingsTest::fullTape, x -> x.feed(0x3b647279, 4), Check.FULL);
    }

    private static void sheets() {
        range("sheet: s", 0, 3, v -> x -> x.sheet(v, 8, 1));
        for (int bits : new int[] {-64, -16, -8, -1, 1, 4, 7, 9, 15, 17, 32, 63, 65, 72, 128, 256}) {
            refused("sheet: bits " + bits, x -> x.sheet(0, bits, 1), Check.BEYOND);
        }
        for (int bits : new int[] {0, 8, 16, 64}) {
            Check.due("sheet: 40", someLand().sheet(0, bits, 40), bits == 0 ? 0 : 40);
            Check.due("sheet: 0", someLand().sheet(0, bits, 0), 0);
            for (int n : outside(0, 40)) {
                refused("sheet: " + bits + " bits, n " + n, x -> x.sheet(0, bits, n), n < 0 ? Check.SIZE : Check.BEYOND);
            }
        }
        range("write: s", 0, 3, v -> x -> x.write(v, 0, 5));
        range("write: i", 0, 2, v -> x -> x.write(0, v, 5));
        range("copy: s", 0, 3, v -> x -> x.copy(v, 0, 1, 0, 1));
        range("copy: t", 0, 3, v -> x -> x.copy(0, 0, v, 0, 1));
        range("copy: from", 0, 2, v -> x -> x.copy(0, v, 1, 0, 1));
        range("copy: to", 0, 1, v -> x -> x.copy(0, 0, 1, v, 1));
        range("copy: n", 0, 2, v -> x -> x.copy(0, 0, 1, 0, v));
        range("copy: n of the other one", 0, 2, v -> x -> x.copy(1, 0, 0, 0, v));
        range("lays: s", 0, 3, v -> x -> x.lays(v));
        range("book: s", 0, 3, v -> x -> x.book(v, 1));
        range("book: hand", 0, 2, v -> x -> x.book(0, v));
        range("read: s", 0, 3, v -> x -> x.read(v, 1));
        range("read: hand", 0, 2, v -> x -> x.read(0, v));
        refused("write: missing", x -> x.write(3, 0, 5), Check.MISSING);
        refused("copy: from a missing one", x -> x.copy(3, 0, 0, 0, 0), Check.MISSING);
        refused("copy: to a missing one", x -> x.copy(0, 0, 3, 0, 0), Check.MISSING);
        refused("copy: other bits", x -> x.copy(0, 0, 2, 0, 1), Check.KIND);
        refused("copy: none, other bits", x -> x.copy(2, 0, 1, 0, 0), Check.KIND);
        refused("copy: ends that wrap", x -> x.copy(0, Integer.MAX_VALUE, 1, 0, 2), Check.BEYOND);
        refused("copy: ends that wrap, too", x -> x.copy(0, 0, 1, 2, Integer.MAX_VALUE), Check.BEYOND);
        refused("lays: missing", x -> x.lays(3), Check.MISSING);
        refused("book: missing", x -> x.book(3, 1), Check.MISSING);
        refused("read: missing", x -> x.read(3, 1), Check.MISSING);
    }

    private static void images() {
        refused("undo: nothing is kept", FindingsTest::emptyLand, x -> x.undo(), Check.NONE);
        refused("undo: it is torn", FindingsTest::torn, x -> x.undo(), Check.NONE);
        range("count: what", 0, 3, v -> x -> x.count(v));
        range("status: which", -1, 6, v -> x -> x.status(v));
    }

    /** Where two findings hold, the one that is asked first is told. */
    private static void order() {
        refused("hand: kind before full", FindingsTest::fullLand, x -> x.hand(6, 3), Check.BEYOND);
        refused("hand: cell before full", FindingsTest::fullLand, x -> x.hand(1, 48), Check.BEYOND);
        refused("stroke: hand before full", FindingsTest::fullLand, x -> x.stroke(6, 1, 1), Check.BEYOND);
        refused("stroke: way before full", FindingsTest::fullLand, x -> x.stroke(5, 4, 1), Check.BEYOND);
        refused("stroke: length before full", FindingsTest::fullLand, x -> x.stroke(5, 1, 8), Check.BEYOND);
        refused("as: hand before kind", x -> x.as(3, 5), Check.BEYOND);
        refused("years: none before state", () -> lateLand(9999), x -> x.years(0), Check.BEYOND);
        refused("years: 61 before state", () -> lateLand(9999), x -> x.years(61), Check.BEYOND);
        refused("years: as many as wrap before state", () -> lateLand(9999), x -> x.years(Integer.MAX_VALUE), Check.BEYOND);
        refused("dry: hand before none", FindingsTest::emptyLand, x -> x.dry(0), Check.BEYOND);
        refused("rich: n before none", FindingsTest::emptyLand, x -> x.rich(61), Check.BEYOND);
        refused("rich: n below before none", FindingsTest::emptyLand, x -> x.rich(-1), Check.BEYOND);
        refused("way: to before none", x -> x.way(0, 0, 48), Check.BEYOND);
        refused("way: from before none", x -> x.way(0, 48, 0), Check.BEYOND);
        refused("way: hand before none", x -> x.way(3, 0, 0), Check.BEYOND);
        refused("feed: n before full", FindingsTest::fullTape, x -> x.feed(0, 5), Check.BEYOND);
        refused("feed: n 0 before full", FindingsTest::fullTape, x -> x.feed(0, 0), Check.BEYOND);
        refused("sheet: s before size", x -> x.sheet(4, 8, -1), Check.BEYOND);
        refused("sheet: bits before size", x -> x.sheet(0, 24, -1), Check.BEYOND);
        refused("write: s before missing", x -> x.write(4, -1, 0), Check.BEYOND);
        refused("write: missing before number", x -> x.write(3, -1, 0), Check.MISSING);
        refused("copy: s before missing", x -> x.copy(4, 0, 3, 0, 1), Check.BEYOND);
        refused("copy: t before missing", x -> x.copy(3, 0, 4, 0, 1), Check.BEYOND);
        refused("copy: missing before bits", x -> x.copy(3, 0, 2, 0, 1), Check.MISSING);
        refused("copy: missing before from", x -> x.copy(3, -1, 0, 0, 1), Check.MISSING);
        refused("copy: bits before from", x -> x.copy(0, -1, 2, 0, 1), Check.KIND);
        refused("copy: bits before n", x -> x.copy(2, 0, 0, 0, 99), Check.KIND);
        refused("book: s before hand", x -> x.book(4, 3), Check.BEYOND);
        refused("book: missing before hand", x -> x.book(3, 3), Check.MISSING);
        refused("read: s before hand", x -> x.read(4, 3), Check.BEYOND);
        refused("read: missing before hand", x -> x.read(3, 3), Check.MISSING);
    }

    /** A fault of the text is no finding, and answers that look like one are none. */
    private static void noFindings() {
        PenAcres x = new PenAcres();
        Check.tell(x, "hand at 48");
        x.field();
        Check.due("a fault is no finding", x.status(-1), 0);
        x.sheet(0, 64, 1);
        x.write(0, 0, Check.BEYOND);
        Check.due("a number as it was", x.write(0, 0, 0), Check.BEYOND);
        Check.due("is no finding", x.status(-1), 0);
        Check.due("nobody's cell", x.cell(20, 3), -1);
        Check.due("is no finding, either", x.status(-1), 0);
    }

    public static void main(String[] args) {
        values();
        field();
        hands();
        years();
        help();
        text();
        sheets();
        images();
        order();
        noFindings();
        Check.end();
    }
}
