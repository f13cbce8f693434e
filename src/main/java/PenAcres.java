/** Handwriting's land: hands write strokes on a field, and what lies inside of their lines is theirs. */
public final class PenAcres {
    private static final int BEYOND = -1000000001;
    private static final int FULL = -1000000002;
    private static final int KIND = -1000000003;
    private static final int NONE = -1000000004;
    private static final int STATE = -1000000005;
    private static final int MISSING = -1000000006;
    private static final int SIZE = -1000000007;
    private static final int FINDINGS = 7;

    private static final int ROWS = 6;
    private static final int ROW = 8;
    private static final int CELLS = 48;
    private static final int WAYS = 4;
    private static final int UP = 0;
    private static final int RIGHT = 1;
    private static final int DOWN = 2;
    private static final int LEFT = 3;
    private static final long ALL_CELLS = 0xFFFFFFFFFFFFL;
    private static final long FIRST_ROW = 0xFFL;
    private static final long LAST_ROW = 0xFF0000000000L;
    private static final long FIRST_COLUMN = 0x010101010101L;
    private static final long LAST_COLUMN = 0x808080808080L;
    private static final long EDGE = FIRST_ROW | LAST_ROW | FIRST_COLUMN | LAST_COLUMN;

    private static final int KINDS = 6;
    private static final int MOST_HANDS = 6;
    private static final int MOST_STROKES = 8;
    private static final int LONGEST = 7;
    private static final int FIRST_INK = 30;
    private static final int MOST_INK = 999;
    private static final int MOST_CORN = 99999;
    private static final int INK_OF_REST = 5;
    private static final int LAST_YEAR = 9999;
    private static final int MOST_YEARS = 60;

    private static final int MOST_BYTES = 120;
    private static final int MOST_FED = 4;
    private static final int MOST_NUMBER = 999;
    private static final int SHEETS = 4;
    private static final int MOST_NUMBERS = 40;

    private final HandKind[] kinds;
    private final Land land;
    /** Where years go on and changes are tried, so that the land itself stays as it is. */
    private final Land ahead;
    private final Land kept;
    private boolean keeps;
    private final Tape tape;
    private final Sheet[] sheets;
    private final int[] answered;

    public PenAcres() {
        HandKind plain = new HandKind(0, "hand");
        kinds = new HandKind[] {
            plain,
            new MiserKind(1, "miser"),
            new DukeKind(2, "duke"),
            new ShakyKind(3, "shaky"),
            new HeirKind(4, "heir"),
            new LeftKind(5, "left")
        };
        land = new Land(plain);
        ahead = new Land(plain);
        kept = new Land(plain);
        tape = new Tape();
        sheets = new Sheet[SHEETS];
        for (int s = 0; s < SHEETS; s++) {
            sheets[s] = new Sheet();
        }
        answered = new int[FINDINGS];
    }

    // ---- the field

    public int smudge(int cell, int v) {
        if (!isCell(cell) || !within(v, 0, 1)) {
            return finding(BEYOND);
        }
        int was = bitOf(land.smudged, cell);
        land.makeSmudged(cell, v == 1);
        return was;
    }

    public int cell(int cell, int what) {
        if (!isCell(cell)) {
            return finding(BEYOND);
        }
        switch (what) {
            case 0:
                return bitOf(land.smudged, cell);
            case 1:
                return land.handsOnWhoseLines(cell);
            case 2:
                return land.handsAround(cell);
            case 3:
                return land.ownerOf(cell);
            default:
                return finding(BEYOND);
        }
    }

    public long cells(int what) {
        switch (what) {
            case 0:
                return land.smudged;
            case 1:
                return land.disputed();
            case 2:
                return land.owned();
            default:
                return finding(BEYOND);
        }
    }

    // ---- hands

    public int hand(int kind, int cell) {
        if (!isKind(kind) || !isCell(cell)) {
            return finding(BEYOND);
        }
        Hand h = land.newHand(kinds[kind], cell);
        return h == null ? finding(FULL) : land.hands - 1;
    }

    public int stroke(int hand, int way, int length) {
        Hand h = land.handOf(hand);
        if (h == null || !isWay(way) || !isLength(length)) {
            return finding(BEYOND);
        }
        if (!h.addStroke(way, length)) {
            return finding(FULL);
        }
        h.trace();
        return h.strokes;
    }

    public int of(int hand, int what) {
        Hand h = land.handOf(hand);
        if (h == null) {
            return finding(BEYOND);
        }
        switch (what) {
            case 0:
                return h.kind.number;
            case 1:
                return h.at;
            case 2:
                return h.ink;
            case 3:
                return h.corn;
            case 4:
                return h.strokes;
            case 5:
                return h.cost;
            case 6:
                return h.writes() ? 1 : 0;
            case 7:
                return h.howManyInside(land.smudged);
            case 8:
                return land.howManyOwnedBy(hand);
            case 9:
                return h.kind.crop();
            default:
                return finding(BEYOND);
        }
    }

    public int told(int hand, int stroke, int what) {
        Hand h = land.handOf(hand);
        if (h == null || !h.hasStroke(stroke)) {
            return finding(BEYOND);
        }
        switch (what) {
            case 0:
                return h.ways[stroke];
            case 1:
                return h.lengths[stroke];
            case 2:
                return h.kind.steps(stroke, h.lengths[stroke]);
            case 3:
                return h.kind.turns(h.ways[stroke]);
            default:
                return finding(BEYOND);
        }
    }

    public int set(int hand, int what, int v) {
        Hand h = land.handOf(hand);
        if (h != null && what == 1 && isCell(v)) {
            int was = h.at;
            h.moveTo(v);
            return was;
        }
        if (h != null && what == 2 && isInk(v)) {
            int was = h.ink;
            h.ink = v;
            return was;
        }
        return finding(BEYOND);
    }

    public int alter(int hand, int stroke, int what, int v) {
        Hand h = land.handOf(hand);
        if (h == null || !h.hasStroke(stroke)) {
            return finding(BEYOND);
        }
        if (what == 0 && isWay(v)) {
            int was = h.ways[stroke];
            h.ways[stroke] = v;
            h.trace();
            return was;
        }
        if (what == 1 && isLength(v)) {
            int was = h.lengths[stroke];
            h.lengths[stroke] = v;
            h.trace();
            return was;
        }
        return finding(BEYOND);
    }

    public int cut(int hand, int n) {
        Hand h = land.handOf(hand);
        if (h == null || !within(n, 0, h.strokes)) {
            return finding(BEYOND);
        }
        int had = h.strokes;
        h.strokes = n;
        h.trace();
        return had;
    }

    public int turn(int hand, int kind) {
        Hand h = land.handOf(hand);
        if (h == null || !isKind(kind)) {
            return finding(BEYOND);
        }
        int was = h.kind.number;
        h.become(kinds[kind]);
        return was;
    }

    public int as(int hand, int kind) {
        Hand h = land.handOf(hand);
        if (h == null || !isKind(kind)) {
            return finding(BEYOND);
        }
        return h.kind.isOf(kind) ? h.ink : finding(KIND);
    }

    public long line(int hand) {
        Hand h = land.handOf(hand);
        return h == null ? finding(BEYOND) : h.lineUnder(land.smudged);
    }

    public long inside(int hand) {
        Hand h = land.handOf(hand);
        return h == null ? finding(BEYOND) : h.insideUnder(land.smudged);
    }

    // ---- years

    public int years(int n) {
        if (!within(n, 1, MOST_YEARS)) {
            return finding(BEYOND);
        }
        if (land.year + n > LAST_YEAR) {
            return finding(STATE);
        }
        land.goYears(n);
        return land.cornOfAll();
    }

    public int now(int what) {
        switch (what) {
            case 0:
                return land.year;
            case 1:
                return land.cornOfAll();
            case 2:
                return land.inkOfAll();
            case 3:
                return land.handsThatWrite();
            case 4:
                return Long.bitCount(land.smudged);
            default:
                return finding(BEYOND);
        }
    }

    public int on(int hand, int n, int what) {
        Hand h = onTrial(hand);
        if (h == null || !isYearsOn(n) || !within(what, 0, 2)) {
            return finding(BEYOND);
        }
        ahead.goYears(n);
        if (what == 0) {
            return h.ink;
        }
        return what == 1 ? h.corn : ahead.howManyOwnedBy(hand);
    }

    public int dry(int hand) {
        Hand h = onTrial(hand);
        if (h == null) {
            return finding(BEYOND);
        }
        for (int n = 0; n <= MOST_YEARS; n++) {
            if (!h.writes()) {
                return n;
            }
            ahead.goYear();
        }
        return finding(NONE);
    }

    public int rich(int n) {
        if (!isYearsOn(n)) {
            return finding(BEYOND);
        }
        ahead.takeFrom(land);
        ahead.goYears(n);
        int richest = ahead.richest();
        return richest < 0 ? finding(NONE) : richest;
    }

    // ---- what helps

    public int rain(int hand) {
        Hand h = land.handOf(hand);
        if (h == null) {
            return finding(BEYOND);
        }
        long line = h.lineUnder(land.smudged);
        int fewest = h.howManyInside(land.smudged);
        int best = NONE;
        for (int cell = 0; cell < CELLS; cell++) {
            if (bitOf(line, cell) == 1) {
                int left = Long.bitCount(Grid.enclosedBy(line & ~Grid.bit(cell)));
                if (left < fewest) {
                    fewest = left;
                    best = cell;
                }
            }
        }
        return best == NONE ? finding(NONE) : best;
    }

    public int longer(int hand) {
        Hand h = onTrial(hand);
        if (h == null) {
            return finding(BEYOND);
        }
        int most = h.howManyInside(ahead.smudged);
        int best = NONE;
        for (int i = 0; i < h.strokes; i++) {
            int many = h.howManyInsideWithLonger(i, ahead.smudged);
            if (many > most) {
                most = many;
                best = i;
            }
        }
        return best == NONE ? finding(NONE) : best;
    }

    public int begin(int hand) {
        Hand h = onTrial(hand);
        if (h == null) {
            return finding(BEYOND);
        }
        int most = -1;
        int best = 0;
        for (int cell = 0; cell < CELLS; cell++) {
            h.moveTo(cell);
            int many = h.howManyInside(ahead.smudged);
            if (many > most) {
                most = many;
                best = cell;
            }
        }
        return best;
    }

    public int kind(int hand) {
        Hand h = onTrial(hand);
        if (h == null) {
            return finding(BEYOND);
        }
        int most = -1;
        int best = 0;
        for (int k = 0; k < kinds.length; k++) {
            h.become(kinds[k]);
            int many = ahead.howManyOwnedBy(hand);
            if (many > most) {
                most = many;
                best = k;
            }
        }
        return best;
    }

    public int ink(int hand) {
        Hand h = onTrial(hand);
        if (h == null) {
            return finding(BEYOND);
        }
        h.ink = MOST_INK;
        int most = ahead.howManyOwnedBy(hand);
        int low = 0;
        int high = MOST_INK;
        // More ink never owns less, so halving finds the least that owns most.
        for (int i = 0; i < MOST_INK && low < high; i++) {
            h.ink = (low + high) / 2;
            if (ahead.howManyOwnedBy(hand) == most) {
                high = h.ink;
            } else {
                low = h.ink + 1;
            }
        }
        return high;
    }

    public int court(int hand, int other) {
        Hand one = land.handOf(hand);
        Hand two = land.handOf(other);
        if (one == null || two == null || hand == other) {
            return finding(BEYOND);
        }
        return Long.bitCount(one.insideUnder(land.smudged) & two.insideUnder(land.smudged));
    }

    public int way(int hand, int from, int to) {
        Hand h = land.handOf(hand);
        if (h == null || !isCell(from) || !isCell(to)) {
            return finding(BEYOND);
        }
        int steps = Grid.fewestSteps(h.lineUnder(land.smudged), from, to);
        return steps < 0 ? finding(NONE) : steps;
    }

    public int sea() {
        long owned = land.owned();
        for (int row = 0; row < ROWS; row++) {
            if ((owned & (FIRST_ROW << (row * ROW))) == 0) {
                return row;
            }
        }
        return finding(NONE);
    }

    // ---- the text

    public int feed(int bytes, int n) {
        if (!within(n, 1, MOST_FED)) {
            return finding(BEYOND);
        }
        if (tape.size + n > MOST_BYTES) {
            return finding(FULL);
        }
        for (int i = n - 1; i >= 0; i--) {
            tape.add((bytes >>> (8 * i)) & 255);
        }
        return tape.size;
    }

    public int wipe() {
        int had = tape.size;
        tape.size = 0;
        return had;
    }

    public int field() {
        // A text with a fault changes nothing, so it is told to a trial of the land first.
        ahead.takeFrom(land);
        int items = tape.tellTo(ahead, kinds);
        tape.size = 0;
        if (items >= 0) {
            ahead.traceHands();
            land.takeFrom(ahead);
        }
        return items;
    }

    // ---- sheets

    public int sheet(int s, int bits, int n) {
        Sheet one = sheetOf(s);
        if (one == null || !isBits(bits)) {
            return finding(BEYOND);
        }
        if (n < 0) {
            return finding(SIZE);
        }
        if (n > MOST_NUMBERS) {
            return finding(BEYOND);
        }
        one.become(bits, bits == 0 ? 0 : n);
        return one.size;
    }

    public long write(int s, int i, long v) {
        Sheet one = sheetOf(s);
        if (one == null) {
            return finding(BEYOND);
        }
        if (one.isMissing()) {
            return finding(MISSING);
        }
        if (!within(i, 0, one.size - 1)) {
            return finding(BEYOND);
        }
        long was = one.numbers[i];
        one.put(i, v);
        return was;
    }

    public int copy(int s, int from, int t, int to, int n) {
        Sheet one = sheetOf(s);
        Sheet two = sheetOf(t);
        if (one == null || two == null) {
            return finding(BEYOND);
        }
        if (one.isMissing() || two.isMissing()) {
            return finding(MISSING);
        }
        if (one.bits != two.bits) {
            return finding(KIND);
        }
        if (!one.hasNumbers(from, n) || !two.hasNumbers(to, n)) {
            return finding(BEYOND);
        }
        System.arraycopy(one.numbers, from, two.numbers, to, n);
        return n;
    }

    public int lays(int s) {
        Sheet one = sheetOf(s);
        if (one == null) {
            return finding(BEYOND);
        }
        if (one.isMissing()) {
            return finding(MISSING);
        }
        int came = 0;
        for (int i = 0; i < one.size; i++) {
            Hand h = land.handOf(i);
            long number = one.numbers[i];
            if (h != null && number >= 0 && number <= MOST_INK) {
                h.ink = (int) number;
                came++;
            }
        }
        return came;
    }

    public int book(int s, int hand) {
        Sheet one = sheetOf(s);
        if (one == null) {
            return finding(BEYOND);
        }
        if (one.isMissing()) {
            return finding(MISSING);
        }
        Hand h = onTrial(hand);
        if (h == null) {
            return finding(BEYOND);
        }
        for (int i = 0; i < one.size; i++) {
            one.put(i, h.corn);
            ahead.goYear();
        }
        return one.size;
    }

    public int read(int s, int hand) {
        Sheet one = sheetOf(s);
        if (one == null) {
            return finding(BEYOND);
        }
        if (one.isMissing()) {
            return finding(MISSING);
        }
        if (land.handOf(hand) == null) {
            return finding(BEYOND);
        }
        int pairs = 0;
        for (int k = 0; k < kinds.length; k++) {
            for (int cell = 0; cell < CELLS; cell++) {
                if (tells(one, hand, kinds[k], cell)) {
                    pairs++;
                }
            }
        }
        return pairs;
    }

    // ---- images

    public int image() {
        kept.takeFrom(land);
        keeps = true;
        return 1;
    }

    public int undo() {
        if (!keeps) {
            return finding(NONE);
        }
        land.takeFrom(kept);
        return land.hands;
    }

    public int tear() {
        int was = keeps ? 1 : 0;
        keeps = false;
        return was;
    }

    public int count(int what) {
        switch (what) {
            case 0:
                return land.hands;
            case 1:
                return tape.size;
            case 2:
                return land.strokesOfAll();
            case 3:
                return land.costsOfAll();
            default:
                return finding(BEYOND);
        }
    }

    public int status(int which) {
        if (which == -1) {
            int all = 0;
            for (int i = 0; i < answered.length; i++) {
                all += answered[i];
            }
            return all;
        }
        if (which < 0 || which >= answered.length) {
            return finding(BEYOND);
        }
        return answered[which];
    }

    // ---- what the calls share

    /** Every finding that a call answers goes through here, since status() counts them. */
    private int finding(int which) {
        int place = BEYOND - which;
        if (place >= 0 && place < answered.length) {
            answered[place]++;
        }
        return which;
    }

    /** The hand of that number in a fresh trial of the land, or null if there is none. */
    private Hand onTrial(int hand) {
        if (land.handOf(hand) == null) {
            return null;
        }
        ahead.takeFrom(land);
        return ahead.handOf(hand);
    }

    /** Whether a hand of that kind at that cell has the sheet's numbers as its corn, year by year. */
    private boolean tells(Sheet one, int hand, HandKind kind, int cell) {
        Hand h = onTrial(hand);
        if (h == null) {
            return false;
        }
        h.kind = kind;
        h.moveTo(cell);
        for (int i = 0; i < one.size; i++) {
            if (one.numbers[i] != h.corn) {
                return false;
            }
            ahead.goYear();
        }
        return true;
    }

    private Sheet sheetOf(int s) {
        return within(s, 0, sheets.length - 1) ? sheets[s] : null;
    }

    private static boolean within(int v, int least, int most) {
        return v >= least && v <= most;
    }

    private static boolean isCell(int v) {
        return within(v, 0, CELLS - 1);
    }

    private static boolean isKind(int v) {
        return within(v, 0, KINDS - 1);
    }

    private static boolean isWay(int v) {
        return within(v, 0, WAYS - 1);
    }

    private static boolean isLength(int v) {
        return within(v, 1, LONGEST);
    }

    private static boolean isInk(int v) {
        return within(v, 0, MOST_INK);
    }

    private static boolean isYearsOn(int v) {
        return within(v, 0, MOST_YEARS);
    }

    private static boolean isBits(int v) {
        return v == 0 || v == 8 || v == 16 || v == 64;
    }

    private static int bitOf(long set, int cell) {
        return (int) ((set >>> cell) & 1L);
    }

    /** The field's shape; sets of cells are the bits 0 to 47 of a long. */
    private static final class Grid {
        static long bit(int cell) {
            return 1L << cell;
        }

        /** The cell one step that way, or -1 if it is off the field. */
        static int stepFrom(int cell, int way) {
            int column = cell % ROW;
            switch (way) {
                case UP:
                    return cell >= ROW ? cell - ROW : -1;
                case RIGHT:
                    return column < ROW - 1 ? cell + 1 : -1;
                case DOWN:
                    return cell < CELLS - ROW ? cell + ROW : -1;
                case LEFT:
                    return column > 0 ? cell - 1 : -1;
                default:
                    return -1;
            }
        }

        static long withBeside(long set) {
            long upAndDown = (set >>> ROW) | (set << ROW);
            long right = (set & ~LAST_COLUMN) << 1;
            long left = (set & ~FIRST_COLUMN) >>> 1;
            return (set | upAndDown | right | left) & ALL_CELLS;
        }

        static long enclosedBy(long line) {
            long free = ALL_CELLS & ~line;
            long open = free & EDGE;
            for (int i = 0; i < CELLS; i++) {
                long wider = withBeside(open) & free;
                if (wider == open) {
                    break;
                }
                open = wider;
            }
            return free & ~open;
        }

        /** The fewest steps over cells of the line alone, or -1 if there is no such way. */
        static int fewestSteps(long line, int from, int to) {
            long reached = line & bit(from);
            long goal = line & bit(to);
            for (int steps = 0; steps < CELLS; steps++) {
                if ((reached & goal) != 0) {
                    return steps;
                }
                reached = withBeside(reached) & line;
            }
            return -1;
        }
    }

    /** The kind HAND; the kinds under it change what they do otherwise and keep the rest. */
    private static class HandKind {
        final int number;
        final String word;

        HandKind(int number, String word) {
            this.number = number;
            this.word = word;
        }

        boolean isOf(int kind) {
            return kind == 0;
        }

        int steps(int i, int length) {
            return length;
        }

        int turns(int way) {
            return way;
        }

        int crop() {
            return 2;
        }
    }

    private static class MiserKind extends HandKind {
        MiserKind(int number, String word) {
            super(number, word);
        }

        boolean isOf(int kind) {
            return kind == 1 || super.isOf(kind);
        }

        int steps(int i, int length) {
            return Math.max(1, super.steps(i, length) / 2);
        }

        int crop() {
            return 2 * super.crop();
        }
    }

    private static class DukeKind extends HandKind {
        DukeKind(int number, String word) {
            super(number, word);
        }

        boolean isOf(int kind) {
            return kind == 2 || super.isOf(kind);
        }

        int steps(int i, int length) {
            return super.steps(i, length) + 1;
        }
    }

    private static final class ShakyKind extends HandKind {
        ShakyKind(int number, String word) {
            super(number, word);
        }

        boolean isOf(int kind) {
            return kind == 3 || super.isOf(kind);
        }

        int steps(int i, int length) {
            return Math.max(1, super.steps(i, length) - i % 2);
        }

        int crop() {
            return super.crop() + 1;
        }
    }

    private static final class HeirKind extends MiserKind {
        HeirKind(int number, String word) {
            super(number, word);
        }

        boolean isOf(int kind) {
            return kind == 4 || super.isOf(kind);
        }

        int steps(int i, int length) {
            int asMiser = super.steps(i, length);
            return i == 0 ? asMiser + 1 : asMiser;
        }

        int crop() {
            return super.crop() - 1;
        }
    }

    private static final class LeftKind extends DukeKind {
        LeftKind(int number, String word) {
            super(number, word);
        }

        boolean isOf(int kind) {
            return kind == 5 || super.isOf(kind);
        }

        int turns(int way) {
            if (way == RIGHT) {
                return LEFT;
            }
            return way == LEFT ? RIGHT : super.turns(way);
        }

        int crop() {
            return super.crop() / 2;
        }
    }

    /** A hand with its strokes, and the path that they write. */
    private static final class Hand {
        HandKind kind;
        int at;
        int ink;
        int corn;
        int strokes;
        final int[] ways;
        final int[] lengths;
        /** All cells that writing comes to, those that are smudged too. */
        long path;
        int cost;
        /** The line looked at last and what is inside of it (nothing, of none): most years change no line. */
        private long lineSeen;
        private long insideSeen;

        Hand(HandKind kind) {
            this.kind = kind;
            ways = new int[MOST_STROKES];
            lengths = new int[MOST_STROKES];
        }

        void startAnew(HandKind newKind, int cell) {
            kind = newKind;
            at = cell;
            ink = FIRST_INK;
            corn = 0;
            strokes = 0;
            path = Grid.bit(cell);
            cost = 0;
        }

        void takeFrom(Hand other) {
            kind = other.kind;
            at = other.at;
            ink = other.ink;
            corn = other.corn;
            strokes = other.strokes;
            System.arraycopy(other.ways, 0, ways, 0, MOST_STROKES);
            System.arraycopy(other.lengths, 0, lengths, 0, MOST_STROKES);
            path = other.path;
            cost = other.cost;
            lineSeen = other.lineSeen;
            insideSeen = other.insideSeen;
        }

        boolean hasStroke(int i) {
            return i >= 0 && i < strokes && i < MOST_STROKES;
        }

        /** Whether there was room for it; the strokes are not traced by it. */
        boolean addStroke(int way, int length) {
            if (strokes < 0 || strokes >= MOST_STROKES) {
                return false;
            }
            ways[strokes] = way;
            lengths[strokes] = length;
            strokes++;
            return true;
        }

        void moveTo(int cell) {
            at = cell;
            trace();
        }

        void become(HandKind newKind) {
            kind = newKind;
            trace();
        }

        /** Writes the strokes out; due whenever the kind, the place or a stroke has changed. */
        void trace() {
            int cell = at;
            path = Grid.bit(cell);
            cost = 0;
            for (int i = 0; i < strokes && i < MOST_STROKES; i++) {
                int way = kind.turns(ways[i]);
                int steps = kind.steps(i, lengths[i]);
                for (int s = 0; s < steps; s++) {
                    int next = Grid.stepFrom(cell, way);
                    if (next < 0) {
                        break;
                    }
                    cell = next;
                    path |= Grid.bit(cell);
                    cost++;
                }
            }
        }

        boolean writes() {
            return ink >= cost;
        }

        long lineUnder(long smudged) {
            return path & ~smudged;
        }

        long insideUnder(long smudged) {
            long line = lineUnder(smudged);
            if (line != lineSeen) {
                lineSeen = line;
                insideSeen = Grid.enclosedBy(line);
            }
            return insideSeen;
        }

        int howManyInside(long smudged) {
            return Long.bitCount(insideUnder(smudged));
        }

        /** How many would be inside with one stroke longer by one; the stroke is then as it was. */
        int howManyInsideWithLonger(int i, long smudged) {
            if (!hasStroke(i) || lengths[i] >= LONGEST) {
                return howManyInside(smudged);
            }
            lengths[i]++;
            trace();
            int many = howManyInside(smudged);
            lengths[i]--;
            trace();
            return many;
        }

        void goYear(int ownedCells) {
            if (writes()) {
                ink = Math.min(MOST_INK, ink - cost + ownedCells);
                corn = Math.min(MOST_CORN, corn + kind.crop() * ownedCells);
            } else {
                ink = Math.min(MOST_INK, ink + INK_OF_REST);
            }
        }
    }

    /** All that an image keeps: what is smudged, the year, the hands. */
    private static final class Land {
        long smudged;
        int year;
        int hands;
        private final Hand[] rows;
        /** What is inside of each hand that writes; as stakeClaims() found it last. */
        private final long[] claims;
        private final int[] ownedCells;

        Land(HandKind plain) {
            rows = new Hand[MOST_HANDS];
            for (int h = 0; h < MOST_HANDS; h++) {
                rows[h] = new Hand(plain);
            }
            claims = new long[MOST_HANDS];
            ownedCells = new int[MOST_HANDS];
        }

        void takeFrom(Land other) {
            smudged = other.smudged;
            year = other.year;
            hands = other.hands;
            for (int h = 0; h < hands && h < rows.length; h++) {
                rows[h].takeFrom(other.rows[h]);
            }
        }

        boolean isFull() {
            return hands >= MOST_HANDS;
        }

        /** The new hand, or null if there is no room for one. */
        Hand newHand(HandKind kind, int cell) {
            if (isFull()) {
                return null;
            }
            Hand h = rows[hands];
            h.startAnew(kind, cell);
            hands++;
            return h;
        }

        /** The hand of that number, or null if there is none. */
        Hand handOf(int number) {
            return number >= 0 && number < hands && number < rows.length ? rows[number] : null;
        }

        void traceHands() {
            for (int h = 0; h < hands; h++) {
                rows[h].trace();
            }
        }

        void makeSmudged(int cell, boolean is) {
            smudged = is ? smudged | Grid.bit(cell) : smudged & ~Grid.bit(cell);
        }

        int handsOnWhoseLines(int cell) {
            int set = 0;
            for (int h = 0; h < hands; h++) {
                set |= bitOf(rows[h].lineUnder(smudged), cell) << h;
            }
            return set;
        }

        int handsAround(int cell) {
            int set = 0;
            for (int h = 0; h < hands; h++) {
                set |= bitOf(rows[h].insideUnder(smudged), cell) << h;
            }
            return set;
        }

        int handsThatWrite() {
            int set = 0;
            for (int h = 0; h < hands; h++) {
                if (rows[h].writes()) {
                    set |= 1 << h;
                }
            }
            return set;
        }

        private void stakeClaims() {
            for (int h = 0; h < hands; h++) {
                claims[h] = rows[h].writes() ? rows[h].insideUnder(smudged) : 0L;
            }
        }

        private boolean goesBefore(int one, int two) {
            int inkOfOne = rows[one].ink;
            int inkOfTwo = rows[two].ink;
            return inkOfOne > inkOfTwo || (inkOfOne == inkOfTwo && one < two);
        }

        /** What a hand owns by the claims that are staked. */
        private long shareOf(int h) {
            long share = claims[h];
            for (int other = 0; other < hands && share != 0; other++) {
                if ((share & claims[other]) != 0 && goesBefore(other, h)) {
                    share &= ~claims[other];
                }
            }
            return share;
        }

        int ownerOf(int cell) {
            stakeClaims();
            for (int h = 0; h < hands; h++) {
                if (bitOf(shareOf(h), cell) == 1) {
                    return h;
                }
            }
            return -1;
        }

        int howManyOwnedBy(int number) {
            if (handOf(number) == null) {
                return 0;
            }
            stakeClaims();
            return Long.bitCount(shareOf(number));
        }

        long owned() {
            stakeClaims();
            long any = 0L;
            for (int h = 0; h < hands; h++) {
                any |= claims[h];
            }
            return any;
        }

        long disputed() {
            stakeClaims();
            long any = 0L;
            long several = 0L;
            for (int h = 0; h < hands; h++) {
                several |= any & claims[h];
                any |= claims[h];
            }
            return several;
        }

        void goYear() {
            // All goes by what is so as the year begins: count first, change then.
            stakeClaims();
            for (int h = 0; h < hands; h++) {
                ownedCells[h] = Long.bitCount(shareOf(h));
            }
            for (int h = 0; h < hands; h++) {
                rows[h].goYear(ownedCells[h]);
            }
            // Takes the least bit off; of none it leaves none.
            smudged &= smudged - 1;
            year++;
        }

        void goYears(int n) {
            for (int i = 0; i < n; i++) {
                goYear();
            }
        }

        /** The hand with most corn, or -1 if there are no hands. */
        int richest() {
            int best = -1;
            int most = -1;
            for (int h = 0; h < hands; h++) {
                if (rows[h].corn > most) {
                    most = rows[h].corn;
                    best = h;
                }
            }
            return best;
        }

        int cornOfAll() {
            int sum = 0;
            for (int h = 0; h < hands; h++) {
                sum += rows[h].corn;
            }
            return sum;
        }

        int inkOfAll() {
            int sum = 0;
            for (int h = 0; h < hands; h++) {
                sum += rows[h].ink;
            }
            return sum;
        }

        int strokesOfAll() {
            int sum = 0;
            for (int h = 0; h < hands; h++) {
                sum += rows[h].strokes;
            }
            return sum;
        }

        int costsOfAll() {
            int sum = 0;
            for (int h = 0; h < hands; h++) {
                sum += rows[h].cost;
            }
            return sum;
        }
    }

    /** The tape's bytes, and the reading of them as the text of a field, token by token. */
    private static final class Tape {
        private static final int END = 0;
        private static final int WORD = 1;
        private static final int NUMBER = 2;
        private static final int SEMICOLON = 3;
        private static final int OTHER = 4;

        int size;
        private final char[] bytes;
        /** The token looked at: what it is, its first byte, the byte behind it, a number's value. */
        private int sort;
        private int start;
        private int behind;
        private int value;

        Tape() {
            bytes = new char[MOST_BYTES];
        }

        void add(int b) {
            if (size >= 0 && size < bytes.length) {
                bytes[size] = (char) b;
                size++;
            }
        }

        /**
         * How many items came to the land, whose hands are not traced yet: that would go too deep here.
         * With a fault -1 less its place; the land is half told then.
         */
        int tellTo(Land land, HandKind[] kinds) {
            behind = 0;
            goOn();
            for (int items = 1; items <= MOST_BYTES; items++) {
                if (!takeItem(land, kinds)) {
                    return -1 - start;
                }
                if (sort == END) {
                    return items;
                }
                if (sort != SEMICOLON) {
                    return -1 - start;
                }
                goOn();
            }
            return -1 - start;
        }

        /** Each take.. answers false at a fault: the token looked at is then the one at fault. */
        private boolean takeItem(Land land, HandKind[] kinds) {
            if (isWord("smudge")) {
                return takeSmudge(land, true);
            }
            if (isWord("dry")) {
                return takeSmudge(land, false);
            }
            HandKind kind = kindNamed(kinds);
            return kind != null && !land.isFull() && takeHand(land, kind);
        }

        private boolean takeSmudge(Land land, boolean is) {
            goOn();
            if (!isNumber(0, CELLS - 1)) {
                return false;
            }
            land.makeSmudged(value, is);
            goOn();
            return true;
        }

        private boolean takeHand(Land land, HandKind kind) {
            goOn();
            if (!isWord("at")) {
                return false;
            }
            goOn();
            if (!isNumber(0, CELLS - 1)) {
                return false;
            }
            Hand h = land.newHand(kind, value);
            if (h == null) {
                return false;
            }
            goOn();
            return takeInk(h) && takeStrokes(h);
        }

        private boolean takeInk(Hand h) {
            if (!isWord("ink")) {
                return true;
            }
            goOn();
            if (!isNumber(0, MOST_INK)) {
                return false;
            }
            h.ink = value;
            goOn();
            return true;
        }

        private boolean takeStrokes(Hand h) {
            for (int i = 0; i < MOST_STROKES; i++) {
                int way = wayNamed();
                if (way < 0) {
                    return true;
                }
                goOn();
                if (!isNumber(1, LONGEST)) {
                    return false;
                }
                h.addStroke(way, value);
                goOn();
            }
            return true;
        }

        private HandKind kindNamed(HandKind[] kinds) {
            for (int k = 0; k < kinds.length; k++) {
                if (isWord(kinds[k].word)) {
                    return kinds[k];
                }
            }
            return null;
        }

        /** The way that the token names, or -1 if it names none. */
        private int wayNamed() {
            if (isWord("up")) {
                return UP;
            }
            if (isWord("right")) {
                return RIGHT;
            }
            if (isWord("down")) {
                return DOWN;
            }
            return isWord("back") ? LEFT : -1;
        }

        private boolean isWord(String word) {
            if (sort != WORD || behind - start != word.length()) {
                return false;
            }
            for (int i = 0; i < word.length(); i++) {
                if (byteAt(start + i) != word.charAt(i)) {
                    return false;
                }
            }
            return true;
        }

        private boolean isNumber(int least, int most) {
            return sort == NUMBER && value >= least && value <= most;
        }

        /** Looks at the next token. */
        private void goOn() {
            start = behind;
            while (start < size && byteAt(start) == ' ') {
                start++;
            }
            behind = start;
            if (start >= size) {
                sort = END;
            } else if (isLetter(byteAt(start))) {
                goOverWord();
            } else if (isDigit(byteAt(start))) {
                goOverNumber();
            } else {
                sort = byteAt(start) == ';' ? SEMICOLON : OTHER;
                behind = start + 1;
            }
        }

        private void goOverWord() {
            sort = WORD;
            while (behind < size && isLetter(byteAt(behind))) {
                behind++;
            }
        }

        private void goOverNumber() {
            sort = NUMBER;
            value = 0;
            while (behind < size && isDigit(byteAt(behind))) {
                // Held just above the greatest, so that no row of digits overflows.
                value = Math.min(MOST_NUMBER + 1, 10 * value + (byteAt(behind) - '0'));
                behind++;
            }
        }

        private char byteAt(int place) {
            return place >= 0 && place < size && place < bytes.length ? bytes[place] : (char) 0;
        }

        private static boolean isLetter(char c) {
            return c >= 'a' && c <= 'z';
        }

        private static boolean isDigit(char c) {
            return c >= '0' && c <= '9';
        }
    }

    /** A row of numbers of 8, 16 or 64 bits, signed as Java's own are; of 0 bits: it is missing. */
    private static final class Sheet {
        int bits;
        int size;
        final long[] numbers;

        Sheet() {
            numbers = new long[MOST_NUMBERS];
        }

        boolean isMissing() {
            return bits == 0;
        }

        void become(int newBits, int newSize) {
            bits = newBits;
            size = newSize;
            for (int i = 0; i < numbers.length; i++) {
                numbers[i] = 0L;
            }
        }

        void put(int i, long v) {
            if (i >= 0 && i < size && i < numbers.length) {
                numbers[i] = lowestBits(v);
            }
        }

        private long lowestBits(long v) {
            if (bits == 8) {
                return (byte) v;
            }
            return bits == 16 ? (short) v : v;
        }

        boolean hasNumbers(int from, int n) {
            return from >= 0 && n >= 0 && n <= size && from <= size - n;
        }
    }
}
