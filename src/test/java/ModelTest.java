import java.util.Random;

/** Long runs of mixed calls, each answer held against the model's; the seeds are fixed. */
public final class ModelTest {
    private static final int RUNS = 120;
    private static final int CALLS = 512;
    private static final int[] ODD = {Integer.MIN_VALUE, -2, -1, 0, 1, 48, 60, 61, 999, 1000, Integer.MAX_VALUE};

    private final Random random;
    private final PenAcres x = new PenAcres();
    private final Model m = new Model();
    private String call = "";
    /** How often arguments are out of their range: 1 in so many. */
    private final int oddness;

    private ModelTest(long seed) {
        random = new Random(seed);
        oddness = seed % 3 == 0 ? 12 : 60;
    }

    /** A number from low to high, now and then one beside or far from them. */
    private int pick(int low, int high) {
        if (random.nextInt(oddness) == 0) {
            int o = random.nextInt(ODD.length + 2);
            return o < ODD.length ? ODD[o] : o == ODD.length ? low - 1 : high + 1;
        }
        return low + random.nextInt(Math.max(1, high - low + 1));
    }

    private int aHand() {
        return pick(0, Math.max(0, m.w.hands.size() - 1));
    }

    private String name(Object... arguments) {
        StringBuilder b = new StringBuilder("(");
        for (Object a : arguments) {
            b.append(b.length() > 1 ? ", " : "").append(a);
        }
        return b.append(")").toString();
    }

    private void same(String what, long got, long want) {
        Check.due(call + what, got, want);
    }

    private void field(int op) {
        int a = pick(0, 47);
        switch (op) {
            case 0: {
                int v = pick(0, 1);
                same("smudge" + name(a, v), x.smudge(a, v), m.smudge(a, v));
                break;
            }
            case 1: {
                int v = pick(0, 3);
                same("cell" + name(a, v), x.cell(a, v), m.cell(a, v));
                break;
            }
            default: {
                int v = pick(0, 2);
                same("cells" + name(v), x.cells(v), m.cells(v));
            }
        }
    }

    private void hands(int op) {
        int h = aHand();
        int a;
        int b;
        int c;
        switch (op) {
            case 0:
                a = pick(0, 5);
                b = pick(0, 47);
                same("hand" + name(a, b), x.hand(a, b), m.hand(a, b));
                break;
            case 1: case 2: case 3: case 4:
                loop(h);
                break;
            case 5:
                a = pick(0, 3);
                b = pick(1, 7);
                same("stroke" + name(h, a, b), x.stroke(h, a, b), m.stroke(h, a, b));
                break;
            case 6: case 7:
                a = pick(0, 9);
                same("of" + name(h, a), x.of(h, a), m.of(h, a));
                break;
            case 8:
                a = pick(0, 7);
                b = pick(0, 3);
                same("told" + name(h, a, b), x.told(h, a, b), m.told(h, a, b));
                break;
            case 9: case 10:
                a = pick(1, 2);
                b = a == 1 ? pick(0, 47) : random.nextInt(3) == 0 ? pick(0, 999) : pick(0, 40);
                same("set" + name(h, a, b), x.set(h, a, b), m.set(h, a, b));
                break;
            case 11:
                a = pick(0, 7);
                b = pick(0, 1);
                c = b == 0 ? pick(0, 3) : pick(1, 7);
                same("alter" + name(h, a, b, c), x.alter(h, a, b, c), m.alter(h, a, b, c));
                break;
            case 12:
                a = pick(0, 8);
                same("cut" + name(h, a), x.cut(h, a), m.cut(h, a));
                break;
            case 13:
                a = pick(0, 5);
                same("turn" + name(h, a), x.turn(h, a), m.turn(h, a));
                break;
            case 14:
                a = pick(0, 5);
                same("as" + name(h, a), x.as(h, a), m.as(h, a));
                break;
            case 15:
                same("line" + name(h), x.line(h), m.line(h));
                break;
            default:
                same("inside" + name(h), x.inside(h), m.inside(h));
        }
    }

    /** A hand begins anew with a round that may close. */
    private void loop(int h) {
        same("cut" + name(h, 0), x.cut(h, 0), m.cut(h, 0));
        int first = random.nextInt(4);
        int turn = random.nextBoolean() ? 1 : 3;
        int wide = 2 + random.nextInt(5);
        int high = 2 + random.nextInt(4);
        for (int i = 0; i < 4; i++) {
            int way = (first + i * turn) % 4;
            int length = i % 2 == 0 ? wide : high;
            same("stroke" + name(h, way, length), x.stroke(h, way, length), m.stroke(h, way, length));
        }
        int at = 8 * random.nextInt(3) + random.nextInt(4);
        same("set" + name(h, 1, at), x.set(h, 1, at), m.set(h, 1, at));
    }

    private void years(int op) {
        int h = aHand();
        int a;
        int b;
        switch (op) {
            case 0:
                a = random.nextInt(4) == 0 ? pick(1, 60) : pick(1, 4);
                same("years" + name(a), x.years(a), m.years(a));
                break;
            case 1:
                a = pick(0, 4);
                same("now" + name(a), x.now(a), m.now(a));
                break;
            case 2:
                a = pick(0, 60);
                b = pick(0, 2);
                same("on" + name(h, a, b), x.on(h, a, b), m.on(h, a, b));
                break;
            case 3:
                same("dry" + name(h), x.dry(h), m.dry(h));
                break;
            default:
                a = pick(0, 60);
                same("rich" + name(a), x.rich(a), m.rich(a));
        }
    }

    private void helps(int op) {
        int h = aHand();
        int a;
        int b;
        switch (op) {
            case 0:
                same("rain" + name(h), x.rain(h), m.rain(h));
                break;
            case 1:
                same("longer" + name(h), x.longer(h), m.longer(h));
                break;
            case 2:
                same("begin" + name(h), x.begin(h), m.begin(h));
                break;
            case 3:
                same("kind" + name(h), x.kind(h), m.kind(h));
                break;
            case 4:
                same("ink" + name(h), x.ink(h), m.ink(h));
                break;
            case 5:
                a = aHand();
                same("court" + name(h, a), x.court(h, a), m.court(h, a));
                break;
            case 6:
                a = cellNear(h);
                b = cellNear(h);
                same("way" + name(h, a, b), x.way(h, a, b), m.way(h, a, b));
                break;
            default:
                same("sea()", x.sea(), m.sea());
        }
    }

    /** Mostly a cell that the hand's writing comes to. */
    private int cellNear(int h) {
        if (m.noHand(h) || random.nextInt(6) == 0) {
            return pick(0, 47);
        }
        var visits = m.w.hands.get(h).visits();
        return visits.get(random.nextInt(visits.size()));
    }

    private void sheets(int op) {
        int s = pick(0, 3);
        int a = pick(0, 40);
        switch (op) {
            case 0: {
                int bits = new int[] {0, 8, 8, 16, 16, 64, 64, pick(0, 64)}[random.nextInt(8)];
                same("sheet" + name(s, bits, a), x.sheet(s, bits, a), m.sheet(s, bits, a));
                break;
            }
            case 1: case 2: {
                long v = random.nextBoolean() ? random.nextInt(1200) - 100 : random.nextLong();
                int i = pick(0, 9);
                same("write" + name(s, i, v), x.write(s, i, v), m.write(s, i, v));
                break;
            }
            case 3: {
                int t = pick(0, 3);
                int to = pick(0, 10);
                int from = pick(0, 10);
                int n = pick(0, 20);
                same("copy" + name(s, from, t, to, n), x.copy(s, from, t, to, n), m.copy(s, from, t, to, n));
                break;
            }
            case 4:
                same("lays" + name(s), x.lays(s), m.lays(s));
                break;
            case 5: {
                int h = aHand();
                same("book" + name(s, h), x.book(s, h), m.book(s, h));
                break;
            }
            default: {
                int h = aHand();
                if (random.nextBoolean()) {
                    same("book" + name(s, h), x.book(s, h), m.book(s, h));
                }
                same("read" + name(s, h), x.read(s, h), m.read(s, h));
            }
        }
    }

    private void images(int op) {
        int a;
        switch (op) {
            case 0:
                same("image()", x.image(), m.image());
                break;
            case 1:
                same("undo()", x.undo(), m.undo());
                break;
            case 2:
                same("tear()", x.tear(), m.tear());
                break;
            case 3:
                a = pick(0, 3);
                same("count" + name(a), x.count(a), m.count(a));
                break;
            default:
                a = pick(-1, 6);
                same("status" + name(a), x.status(a), m.status(a));
        }
    }

    private void text() {
        String t = aText();
        for (int i = 0; i < t.length();) {
            int n = Math.min(t.length() - i, 1 + random.nextInt(4));
            int bytes = random.nextInt();
            for (int k = 0; k < n; k++) {
                bytes = bytes << 8 | t.charAt(i + k);
            }
            same("feed" + name(bytes, n), x.feed(bytes, n), m.feed(bytes, n));
            i += n;
        }
        if (random.nextInt(20) == 0) {
            same("wipe()", x.wipe(), m.wipe());
        } else if (random.nextInt(20) != 0) {
            same("field() of <" + m.tape + ">", x.field(), m.field());
        }
        int n = pick(1, 4);
        if (n < 1 || n > 4) {
            same("feed" + name(7, n), x.feed(7, n), m.feed(7, n));
        }
    }

    /** A text, often a right one, often with a byte or a token spoilt. */
    private String aText() {
        StringBuilder b = new StringBuilder();
        int items = 1 + random.nextInt(4);
        for (int i = 0; i < items; i++) {
            b.append(i == 0 ? "" : blank() + ";" + blank());
            int sort = random.nextInt(4);
            if (sort < 2) {
                b.append(sort == 0 ? "smudge" : "dry").append(blank()).append(number(47));
            } else {
                anItem(b);
            }
        }
        if (random.nextInt(3) == 0 && b.length() > 0) {
            int place = random.nextInt(b.length());
            String bad = " ;aikx0199\t{`:/" + (char) 0 + (char) 200 + "at";
            char c = bad.charAt(random.nextInt(bad.length()));
            switch (random.nextInt(3)) {
                case 0: b.setCharAt(place, c); break;
                case 1: b.deleteCharAt(place); break;
                default: b.insert(place, c);
            }
        }
        if (random.nextInt(8) == 0) {
            b.setLength(random.nextInt(b.length() + 1));
        }
        return b.toString();
    }

    private void anItem(StringBuilder b) {
        b.append(Model.KINDS.get(random.nextInt(6))).append(" at").append(blank()).append(number(47));
        if (random.nextBoolean()) {
            b.append(blank()).append("ink").append(blank()).append(number(999));
        }
        int strokes = random.nextInt(10);
        for (int s = 0; s < strokes; s++) {
            b.append(blank()).append(Model.WAYS.get(random.nextInt(4)));
            b.append(blank()).append(random.nextInt(30) == 0 ? 8 * random.nextInt(2) : 1 + random.nextInt(7));
        }
    }

    private String blank() {
        return "  ".substring(random.nextInt(3));
    }

    private String number(int most) {
        int n = random.nextInt(25) == 0 ? most + 1 : random.nextInt(most + 1);
        return random.nextInt(10) == 0 ? "00" + n : "" + n;
    }

    private void step() {
        int r = random.nextInt(100);
        if (r < 12) {
            field(random.nextInt(3));
        } else if (r < 52) {
            hands(random.nextInt(17));
        } else if (r < 64) {
            years(random.nextInt(5));
        } else if (r < 80) {
            helps(random.nextInt(8));
        } else if (r < 84) {
            text();
        } else if (r < 93) {
            sheets(random.nextInt(7));
        } else {
            images(random.nextInt(5));
        }
    }

    public static void main(String[] args) {
        for (int seed = 0; seed < RUNS; seed++) {
            ModelTest run = new ModelTest(seed);
            for (int i = 0; i < CALLS; i++) {
                run.call = "run " + seed + " call " + i + " ";
                run.step();
            }
        }
        Check.end();
    }
}
