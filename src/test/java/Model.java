import java.util.ArrayList;
import java.util.Arrays;
import java.util.List;
import java.util.regex.Matcher;
import java.util.regex.Pattern;

/** The document once more, as slow and plain as can be, to hold the class against. */
final class Model {
    static final int BEYOND = Check.BEYOND;
    static final int FULL = Check.FULL;
    static final int KIND = Check.KIND;
    static final int NONE = Check.NONE;
    static final int STATE = Check.STATE;
    static final int MISSING = Check.MISSING;
    static final int SIZE = Check.SIZE;
    static final List<String> KINDS = List.of("hand", "miser", "duke", "shaky", "heir", "left");
    static final List<String> WAYS = List.of("up", "right", "down", "back");
    static final int[] ABOVE = {-1, 0, 0, 0, 1, 2};

    static final class H {
        int kind;
        int at;
        int ink = 30;
        int corn = 0;
        List<int[]> strokes = new ArrayList<>();

        H same() {
            H h = new H();
            h.kind = kind;
            h.at = at;
            h.ink = ink;
            h.corn = corn;
            for (int[] s : strokes) {
                h.strokes.add(s.clone());
            }
            return h;
        }

        List<Integer> visits() {
            List<Integer> all = new ArrayList<>();
            int row = at / 8;
            int column = at % 8;
            all.add(at);
            for (int i = 0; i < strokes.size(); i++) {
                int way = turns(kind, strokes.get(i)[0]);
                for (int s = 0; s < steps(kind, i, strokes.get(i)[1]); s++) {
                    int r = row + (way == 0 ? -1 : way == 2 ? 1 : 0);
                    int c = column + (way == 1 ? 1 : way == 3 ? -1 : 0);
                    if (r >= 0 && r < 6 && c >= 0 && c < 8) {
                        row = r;
                        column = c;
                        all.add(8 * r + c);
                    }
                }
            }
            return all;
        }

        int cost() {
            return visits().size() - 1;
        }

        boolean writes() {
            return ink >= cost();
        }
    }

    static final class World {
        List<H> hands = new ArrayList<>();
        boolean[] smudged = new boolean[48];
        int year = 0;

        World same() {
            World w = new World();
            for (H h : hands) {
                w.hands.add(h.same());
            }
            w.smudged = smudged.clone();
            w.year = year;
            return w;
        }

        boolean[] line(H h) {
            boolean[] line = new boolean[48];
            for (int cell : h.visits()) {
                line[cell] = !smudged[cell];
            }
            return line;
        }

        boolean[] inside(H h) {
            return insideOf(line(h));
        }

        int owner(int cell) {
            int best = -1;
            for (int i = 0; i < hands.size(); i++) {
                H h = hands.get(i);
                if (h.writes() && inside(h)[cell] && (best < 0 || h.ink > hands.get(best).ink)) {
                    best = i;
                }
            }
            return best;
        }

        int[] owners() {
            boolean[][] insides = new boolean[hands.size()][];
            for (int i = 0; i < hands.size(); i++) {
                insides[i] = hands.get(i).writes() ? inside(hands.get(i)) : new boolean[48];
            }
            int[] owners = new int[48];
            for (int cell = 0; cell < 48; cell++) {
                owners[cell] = -1;
                for (int i = hands.size() - 1; i >= 0; i--) {
                    if (insides[i][cell]
                        && (owners[cell] < 0 || hands.get(i).ink >= hands.get(owners[cell]).ink)) {
                        owners[cell] = i;
                    }
                }
            }
            return owners;
        }

        int owns(int hand) {
            int n = 0;
            for (int owner : owners()) {
                n += owner == hand ? 1 : 0;
            }
            return n;
        }

        void go() {
            int[] owners = owners();
            for (int i = 0; i < hands.size(); i++) {
                H h = hands.get(i);
                int owned = 0;
                for (int owner : owners) {
                    owned += owner == i ? 1 : 0;
                }
                if (h.writes()) {
                    h.ink -= h.cost();
                    h.ink += owned;
                    h.corn += owned * crop(h.kind);
                } else {
                    h.ink += 5;
                }
                h.ink = Math.min(h.ink, 999);
                h.corn = Math.min(h.corn, 99999);
            }
            for (int cell = 0; cell < 48; cell++) {
                if (smudged[cell]) {
                    smudged[cell] = false;
                    break;
                }
            }
            year++;
        }

        World on(int n) {
            World w = same();
            for (int i = 0; i < n; i++) {
                w.go();
            }
            return w;
        }
    }

    static final class S {
        int bits;
        long[] numbers;
    }

    World w = new World();
    World kept = null;
    StringBuilder tape = new StringBuilder();
    S[] sheets = new S[4];
    long[] findings = new long[7];

    private int f(int finding) {
        findings[BEYOND - finding]++;
        return finding;
    }

    static int steps(int kind, int i, int l) {
        switch (kind) {
            case 1: return Math.max(1, l / 2);
            case 2: case 5: return l + 1;
            case 3: return Math.max(1, i % 2 == 1 ? l - 1 : l);
            case 4: return Math.max(1, l / 2) + (i == 0 ? 1 : 0);
            default: return l;
        }
    }

    static int turns(int kind, int way) {
        return kind == 5 && way % 2 == 1 ? 4 - way : way;
    }

    static int crop(int kind) {
        return new int[] {2, 4, 2, 3, 3, 1}[kind];
    }

    static boolean edge(int cell) {
        return cell < 8 || cell >= 40 || cell % 8 == 0 || cell % 8 == 7;
    }

    static int[] beside(int cell) {
        List<Integer> b = new ArrayList<>();
        if (cell / 8 > 0) b.add(cell - 8);
        if (cell % 8 < 7) b.add(cell + 1);
        if (cell / 8 < 5) b.add(cell + 8);
        if (cell % 8 > 0) b.add(cell - 1);
        int[] all = new int[b.size()];
        for (int i = 0; i < all.length; i++) all[i] = b.get(i);
        return all;
    }

    private static final int[][] BESIDE = new int[48][];

    static {
        for (int i = 0; i < 48; i++) BESIDE[i] = beside(i);
    }

    static void walk(boolean[] line, boolean[] seen, int cell) {
        if (line[cell] || seen[cell]) return;
        seen[cell] = true;
        for (int b : BESIDE[cell]) walk(line, seen, b);
    }

    static boolean[] insideOf(boolean[] line) {
        boolean[] seen = new boolean[48];
        for (int cell = 0; cell < 48; cell++) {
            if (edge(cell)) walk(line, seen, cell);
        }
        boolean[] in = new boolean[48];
        for (int cell = 0; cell < 48; cell++) in[cell] = !line[cell] && !seen[cell];
        return in;
    }

    static long bits(boolean[] set) {
        long v = 0;
        for (int i = 47; i >= 0; i--) v = 2 * v + (set[i] ? 1 : 0);
        return v;
    }

    static int size(boolean[] set) {
        int n = 0;
        for (boolean b : set) n += b ? 1 : 0;
        return n;
    }

    boolean noHand(int h) {
        return h < 0 || h >= w.hands.size();
    }

    static boolean no(int v, int low, int high) {
        return v < low || v > high;
    }

    int smudge(int cell, int v) {
        if (no(cell, 0, 47) || no(v, 0, 1)) return f(BEYOND);
        int was = w.smudged[cell] ? 1 : 0;
        w.smudged[cell] = v == 1;
        return was;
    }

    int cell(int cell, int what) {
        if (no(cell, 0, 47) || no(what, 0, 3)) return f(BEYOND);
        if (what == 0) return w.smudged[cell] ? 1 : 0;
        if (what == 3) return w.owner(cell);
        int set = 0;
        for (int i = 0; i < w.hands.size(); i++) {
            H h = w.hands.get(i);
            if ((what == 1 ? w.line(h) : w.inside(h))[cell]) set += 1 << i;
        }
        return set;
    }

    long cells(int what) {
        if (no(what, 0, 2)) return f(BEYOND);
        if (what == 0) return bits(w.smudged);
        boolean[] set = new boolean[48];
        for (int cell = 0; cell < 48; cell++) {
            int n = 0;
            for (H h : w.hands) n += h.writes() && w.inside(h)[cell] ? 1 : 0;
            set[cell] = n >= (what == 1 ? 2 : 1);
        }
        return bits(set);
    }

    int hand(int kind, int cell) {
        if (no(kind, 0, 5) || no(cell, 0, 47)) return f(BEYOND);
        if (w.hands.size() == 6) return f(FULL);
        H h = new H();
        h.kind = kind;
        h.at = cell;
        w.hands.add(h);
        return w.hands.size() - 1;
    }

    int stroke(int hand, int way, int length) {
        if (noHand(hand) || no(way, 0, 3) || no(length, 1, 7)) return f(BEYOND);
        List<int[]> all = w.hands.get(hand).strokes;
        if (all.size() == 8) return f(FULL);
        all.add(new int[] {way, length});
        return all.size();
    }

    int of(int hand, int what) {
        if (noHand(hand) || no(what, 0, 9)) return f(BEYOND);
        H h = w.hands.get(hand);
        switch (what) {
            case 0: return h.kind;
            case 1: return h.at;
            case 2: return h.ink;
            case 3: return h.corn;
            case 4: return h.strokes.size();
            case 5: return h.cost();
            case 6: return h.writes() ? 1 : 0;
            case 7: return size(w.inside(h));
            case 8: return w.owns(hand);
            default: return crop(h.kind);
        }
    }

    int told(int hand, int stroke, int what) {
        if (noHand(hand)) return f(BEYOND);
        H h = w.hands.get(hand);
        if (no(stroke, 0, h.strokes.size() - 1) || no(what, 0, 3)) return f(BEYOND);
        int[] s = h.strokes.get(stroke);
        return what < 2 ? s[what] : what == 2 ? steps(h.kind, stroke, s[1]) : turns(h.kind, s[0]);
    }

    int set(int hand, int what, int v) {
        if (noHand(hand) || no(what, 1, 2) || no(v, 0, what == 1 ? 47 : 999)) return f(BEYOND);
        H h = w.hands.get(hand);
        int was = what == 1 ? h.at : h.ink;
        if (what == 1) h.at = v;
        else h.ink = v;
        return was;
    }

    int alter(int hand, int stroke, int what, int v) {
        if (noHand(hand) || no(stroke, 0, w.hands.get(hand).strokes.size() - 1)) return f(BEYOND);
        if (no(what, 0, 1) || no(v, what, what == 0 ? 3 : 7)) return f(BEYOND);
        int[] s = w.hands.get(hand).strokes.get(stroke);
        int was = s[what];
        s[what] = v;
        return was;
    }

    int cut(int hand, int n) {
        if (noHand(hand) || no(n, 0, w.hands.get(hand).strokes.size())) return f(BEYOND);
        H h = w.hands.get(hand);
        int had = h.strokes.size();
        while (h.strokes.size() > n) h.strokes.remove(h.strokes.size() - 1);
        return had;
    }

    int turn(int hand, int kind) {
        if (noHand(hand) || no(kind, 0, 5)) return f(BEYOND);
        int was = w.hands.get(hand).kind;
        w.hands.get(hand).kind = kind;
        return was;
    }

    int as(int hand, int kind) {
        if (noHand(hand) || no(kind, 0, 5)) return f(BEYOND);
        for (int k = w.hands.get(hand).kind; k >= 0; k = ABOVE[k]) {
            if (k == kind) return w.hands.get(hand).ink;
        }
        return f(KIND);
    }

    long line(int hand) {
        return noHand(hand) ? f(BEYOND) : bits(w.line(w.hands.get(hand)));
    }

    long inside(int hand) {
        return noHand(hand) ? f(BEYOND) : bits(w.inside(w.hands.get(hand)));
    }

    int years(int n) {
        if (no(n, 1, 60)) return f(BEYOND);
        if (w.year + n > 9999) return f(STATE);
        w = w.on(n);
        return now(1);
    }

    int now(int what) {
        if (no(what, 0, 4)) return f(BEYOND);
        if (what == 0) return w.year;
        if (what == 4) return size(w.smudged);
        int sum = 0;
        for (int i = 0; i < w.hands.size(); i++) {
            H h = w.hands.get(i);
            sum += what == 1 ? h.corn : what == 2 ? h.ink : h.writes() ? 1 << i : 0;
        }
        return sum;
    }

    int on(int hand, int n, int what) {
        if (noHand(hand) || no(n, 0, 60) || no(what, 0, 2)) return f(BEYOND);
        World then = w.on(n);
        H h = then.hands.get(hand);
        return what == 0 ? h.ink : what == 1 ? h.corn : then.owns(hand);
    }

    int dry(int hand) {
        if (noHand(hand)) return f(BEYOND);
        for (int n = 0; n <= 60; n++) {
            if (!w.on(n).hands.get(hand).writes()) return n;
        }
        return f(NONE);
    }

    int rich(int n) {
        if (no(n, 0, 60)) return f(BEYOND);
        if (w.hands.isEmpty()) return f(NONE);
        World then = w.on(n);
        int best = 0;
        for (int i = 1; i < then.hands.size(); i++) {
            if (then.hands.get(i).corn > then.hands.get(best).corn) best = i;
        }
        return best;
    }

    int rain(int hand) {
        if (noHand(hand)) return f(BEYOND);
        H h = w.hands.get(hand);
        int[] left = new int[48];
        Arrays.fill(left, 99);
        for (int cell = 0; cell < 48; cell++) {
            World then = w.same();
            then.smudged[cell] = true;
            if (w.line(h)[cell]) left[cell] = size(then.inside(h));
        }
        for (int fewest = 0; fewest < size(w.inside(h)); fewest++) {
            for (int cell = 0; cell < 48; cell++) {
                if (left[cell] == fewest) return cell;
            }
        }
        return f(NONE);
    }

    int longer(int hand) {
        if (noHand(hand)) return f(BEYOND);
        H h = w.hands.get(hand);
        for (int most = 48; most > size(w.inside(h)); most--) {
            for (int i = 0; i < h.strokes.size(); i++) {
                H trial = h.same();
                trial.strokes.get(i)[1] = Math.min(7, trial.strokes.get(i)[1] + 1);
                if (size(w.inside(trial)) == most) return i;
            }
        }
        return f(NONE);
    }

    int begin(int hand) {
        if (noHand(hand)) return f(BEYOND);
        H trial = w.hands.get(hand).same();
        for (int most = 48; most >= 0; most--) {
            for (int cell = 0; cell < 48; cell++) {
                trial.at = cell;
                if (size(w.inside(trial)) == most) return cell;
            }
        }
        return -7;
    }

    int kind(int hand) {
        if (noHand(hand)) return f(BEYOND);
        for (int most = 48; most >= 0; most--) {
            for (int k = 0; k < 6; k++) {
                World then = w.same();
                then.hands.get(hand).kind = k;
                if (then.owns(hand) == most) return k;
            }
        }
        return -7;
    }

    int ink(int hand) {
        if (noHand(hand)) return f(BEYOND);
        World then = w.same();
        int most = -1;
        int best = -1;
        for (int v = 0; v <= 999; v++) {
            then.hands.get(hand).ink = v;
            int owns = then.owns(hand);
            if (owns > most) {
                most = owns;
                best = v;
            }
        }
        return best;
    }

    int court(int hand, int other) {
        if (noHand(hand) || noHand(other) || hand == other) return f(BEYOND);
        int n = 0;
        for (int cell = 0; cell < 48; cell++) {
            if (w.inside(w.hands.get(hand))[cell] && w.inside(w.hands.get(other))[cell]) n++;
        }
        return n;
    }

    int way(int hand, int from, int to) {
        if (noHand(hand) || no(from, 0, 47) || no(to, 0, 47)) return f(BEYOND);
        boolean[] line = w.line(w.hands.get(hand));
        int[] far = new int[48];
        Arrays.fill(far, 1000);
        if (line[from]) far[from] = 0;
        for (int round = 0; round < 48; round++) {
            for (int a = 0; a < 48; a++) {
                for (int b : beside(a)) {
                    if (line[a] && line[b]) far[b] = Math.min(far[b], far[a] + 1);
                }
            }
        }
        return far[to] >= 1000 ? f(NONE) : far[to];
    }

    int sea() {
        int[] owners = w.owners();
        for (int row = 0; row < 6; row++) {
            boolean free = true;
            for (int c = 0; c < 8; c++) free &= owners[8 * row + c] < 0;
            if (free) return row;
        }
        return f(NONE);
    }

    int feed(int bytes, int n) {
        if (no(n, 1, 4)) return f(BEYOND);
        if (tape.length() + n > 120) return f(FULL);
        char[] four = {(char) (bytes >>> 24), (char) (bytes >> 16 & 255), (char) (bytes >> 8 & 255),
            (char) (bytes & 255)};
        tape.append(four, 4 - n, n);
        return tape.length();
    }

    int wipe() {
        int had = tape.length();
        tape.setLength(0);
        return had;
    }

    private static final Pattern TOKEN = Pattern.compile(" +|[a-z]+|[0-9]+|;|.", Pattern.DOTALL);

    /** Each token that may come next is named by the state; a fault ends it. */
    int field() {
        World then = w.same();
        Matcher m = TOKEN.matcher(tape.toString());
        String state = "item";
        H h = null;
        int way = 0;
        int items = 0;
        int length = wipe();
        while (m.find()) {
            String t = m.group();
            if (t.startsWith(" ")) continue;
            int fault = -1 - m.start();
            int number = t.matches("[0-9]+") ? new java.math.BigInteger(t).min(java.math.BigInteger.valueOf(5000)).intValue() : -1;
            if (state.equals("item") && KINDS.contains(t) && then.hands.size() < 6) {
                h = new H();
                h.kind = KINDS.indexOf(t);
                state = "at";
            } else if (state.equals("item") && (t.equals("smudge") || t.equals("dry"))) {
                state = t;
            } else if (state.equals("at") && t.equals("at")) {
                state = "place";
            } else if (state.equals("place") && number >= 0 && number <= 47) {
                h.at = number;
                then.hands.add(h);
                items++;
                state = "ink?";
            } else if (state.equals("ink?") && t.equals("ink")) {
                state = "ink";
            } else if (state.equals("ink") && number >= 0 && number <= 999) {
                h.ink = number;
                state = "stroke?";
            } else if (state.endsWith("k?") && t.equals(";") || state.endsWith("e?") && t.equals(";")) {
                state = "item";
            } else if ((state.equals("ink?") || state.equals("stroke?")) && WAYS.contains(t)
                && h.strokes.size() < 8) {
                way = WAYS.indexOf(t);
                state = "length";
            } else if (state.equals("length") && number >= 1 && number <= 7) {
                h.strokes.add(new int[] {way, number});
                state = "stroke?";
            } else if ((state.equals("smudge") || state.equals("dry")) && number >= 0 && number <= 47) {
                then.smudged[number] = state.equals("smudge");
                items++;
                state = "over";
            } else if (state.equals("over") && t.equals(";")) {
                state = "item";
            } else {
                return fault;
            }
        }
        if (!state.endsWith("?") && !state.equals("over")) return -1 - length;
        w = then;
        return items;
    }

    int sheet(int s, int bits, int n) {
        if (no(s, 0, 3) || bits != 0 && bits != 8 && bits != 16 && bits != 64) return f(BEYOND);
        if (n < 0) return f(SIZE);
        if (n > 40) return f(BEYOND);
        sheets[s] = null;
        if (bits == 0) return 0;
        sheets[s] = new S();
        sheets[s].bits = bits;
        sheets[s].numbers = new long[n];
        return n;
    }

    private static long low(int bits, long v) {
        return v << (64 - bits) >> (64 - bits);
    }

    long write(int s, int i, long v) {
        if (no(s, 0, 3)) return f(BEYOND);
        if (sheets[s] == null) return f(MISSING);
        if (no(i, 0, sheets[s].numbers.length - 1)) return f(BEYOND);
        long was = sheets[s].numbers[i];
        sheets[s].numbers[i] = low(sheets[s].bits, v);
        return was;
    }

    int copy(int s, int from, int t, int to, int n) {
        if (no(s, 0, 3) || no(t, 0, 3)) return f(BEYOND);
        if (sheets[s] == null || sheets[t] == null) return f(MISSING);
        if (sheets[s].bits != sheets[t].bits) return f(KIND);
        if (from < 0 || to < 0 || n < 0) return f(BEYOND);
        if ((long) from + n > sheets[s].numbers.length) return f(BEYOND);
        if ((long) to + n > sheets[t].numbers.length) return f(BEYOND);
        long[] were = sheets[s].numbers.clone();
        for (int i = 0; i < n; i++) sheets[t].numbers[to + i] = were[from + i];
        return n;
    }

    int lays(int s) {
        if (no(s, 0, 3)) return f(BEYOND);
        if (sheets[s] == null) return f(MISSING);
        int came = 0;
        for (int i = 0; i < Math.min(w.hands.size(), sheets[s].numbers.length); i++) {
            long v = sheets[s].numbers[i];
            if (v < 0 || v > 999) continue;
            w.hands.get(i).ink = (int) v;
            came++;
        }
        return came;
    }

    int book(int s, int hand) {
        if (no(s, 0, 3)) return f(BEYOND);
        if (sheets[s] == null) return f(MISSING);
        if (noHand(hand)) return f(BEYOND);
        for (int i = 0; i < sheets[s].numbers.length; i++) {
            sheets[s].numbers[i] = low(sheets[s].bits, w.on(i).hands.get(hand).corn);
        }
        return sheets[s].numbers.length;
    }

    int read(int s, int hand) {
        if (no(s, 0, 3)) return f(BEYOND);
        if (sheets[s] == null) return f(MISSING);
        if (noHand(hand)) return f(BEYOND);
        int pairs = 0;
        for (int k = 0; k < 6; k++) {
            for (int cell = 0; cell < 48; cell++) {
                World then = w.same();
                then.hands.get(hand).kind = k;
                then.hands.get(hand).at = cell;
                boolean just = true;
                for (long v : sheets[s].numbers) {
                    just &= then.hands.get(hand).corn == v;
                    if (!just) break;
                    then.go();
                }
                pairs += just ? 1 : 0;
            }
        }
        return pairs;
    }

    int image() {
        kept = w.same();
        return 1;
    }

    int undo() {
        if (kept == null) return f(NONE);
        w = kept.same();
        return w.hands.size();
    }

    int tear() {
        int was = kept == null ? 0 : 1;
        kept = null;
        return was;
    }

    int count(int what) {
        if (no(what, 0, 3)) return f(BEYOND);
        if (what == 0) return w.hands.size();
        if (what == 1) return tape.length();
        int sum = 0;
        for (H h : w.hands) sum += what == 2 ? h.strokes.size() : h.cost();
        return sum;
    }

    int status(int which) {
        if (no(which, -1, 6)) return f(BEYOND);
        long sum = 0;
        for (int i = 0; i < 7; i++) sum += which == -1 || which == i ? findings[i] : 0;
        return (int) sum;
    }
}
