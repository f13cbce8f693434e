import java.lang.management.ManagementFactory;

/** All calls of a run share one room: calls make no objects, and a new one is small. */
public final class RoomTest {
    private static final com.sun.management.ThreadMXBean ROOM =
        (com.sun.management.ThreadMXBean) ManagementFactory.getThreadMXBean();
    private static long sum = 0;

    private static long taken() {
        return ROOM.getCurrentThreadAllocatedBytes();
    }

    /** Every call of the face, right ones and wrong ones. */
    private static void allCalls(PenAcres x, int k) {
        sum += x.wipe() + x.feed(0x68616e64, 4) + x.feed(0x20617420, 4) + x.feed(0x39207570, 4) + x.feed(0x32, 1);
        sum += x.field() + x.feed(0x6474, 2) + x.field() + x.hand(k % 7, k % 49) + x.stroke(k % 7, k % 5, k % 9);
        sum += x.smudge(k % 49, k % 3) + x.cell(k % 48, k % 5) + x.cells(k % 4);
        sum += x.of(k % 7, k % 11) + x.told(k % 7, 0, k % 5) + x.set(k % 7, 1 + k % 2, k) + x.alter(0, 0, k % 3, k % 8);
        sum += x.cut(k % 7, k % 8) + x.turn(k % 7, k % 7) + x.as(k % 7, k % 7) + x.line(k % 7) + x.inside(k % 7);
        sum += x.years(k % 62) + x.now(k % 6) + x.on(k % 7, k % 62, k % 4) + x.dry(k % 7) + x.rich(k % 62);
        sum += x.rain(k % 7) + x.longer(k % 7) + x.begin(k % 7) + x.kind(k % 7) + x.ink(k % 7) + x.sea();
        sum += x.court(k % 7, k % 5) + x.way(k % 7, k % 49, k % 48);
        sum += x.sheet(k % 5, 8 << k % 4, k % 42) + x.write(k % 5, k % 41, k) + x.copy(k % 4, 0, k % 3, 1, k % 5);
        sum += x.lays(k % 5) + x.book(k % 5, k % 7) + x.read(k % 5, k % 7);
        sum += x.image() + x.undo() + x.tear() + x.undo() + x.count(k % 5) + x.status(k % 9 - 1);
    }

    public static void main(String[] args) {
        PenAcres x = new PenAcres();
        allCalls(x, 1);
        long before = taken();
        long nothing = taken() - before;
        before = taken();
        for (int k = 0; k < 512; k++) {
            allCalls(x, k);
        }
        // The machine itself takes a little when it first comes to a constant; an object a call is more.
        long byCalls = taken() - before - nothing;
        Check.due("512 rounds of calls take " + byCalls + " bytes", byCalls < 4096 ? 1 : 0, 1);
        before = taken();
        for (int i = 0; i < 100; i++) {
            sum += new PenAcres().count(0);
        }
        long each = (taken() - before - nothing) / 100;
        Check.due("a new one takes " + each + " bytes, 16384 at most", each <= 16384 ? 1 : 0, 1);
        System.out.println("a new one takes " + each + " bytes, calls " + byCalls + " (answers add up to " + sum + ")");
        Check.end();
    }
}
