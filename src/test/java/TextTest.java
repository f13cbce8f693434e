/** Promises 29 to 31: feed, wipe, field. */
public final class TextTest {
    private static void promise29() {
        PenAcres x = new PenAcres();
        Check.due("n 0", x.feed(0, 0), Check.BEYOND);
        Check.due("n 5", x.feed(0, 5), Check.BEYOND);
        Check.due("n -1", x.feed(0, -1), Check.BEYOND);
        for (int far : Check.FAR) {
            Check.due("far n", x.feed(0, far), Check.BEYOND);
        }
        Check.due("empty", x.count(1), 0);
        // "dry 7", with bytes above the lowest that must not come.
        Check.due("two", x.feed(0x11116472, 2), 2);
        Check.due("one", x.feed(0x55555579, 1), 3);
        Check.due("two more", x.feed(0x2037, 2), 5);
        x.smudge(7, 1);
        Check.due("the highest first", x.field(), 1);
        Check.due("dry", x.cell(7, 0), 0);
        Check.due("three", x.feed(0x22647279, 3), 3);
        Check.due("four", x.feed(0x20202038, 4), 7);
        x.smudge(8, 1);
        Check.due("read", x.field(), 1);
        Check.due("dry, too", x.cell(8, 0), 0);
        for (int i = 1; i <= 29; i++) {
            Check.due("four more", x.feed(-1, 4), 4 * i);
        }
        Check.due("119", x.feed(0, 3), 119);
        Check.due("two are too many", x.feed(0, 2), Check.FULL);
        Check.due("five are beyond first", x.feed(0, 5), Check.BEYOND);
        Check.due("one is not", x.feed(0, 1), 120);
        Check.due("full", x.feed(0, 1), Check.FULL);
        Check.due("all there", x.count(1), 120);
    }

    /** "(n 1 to 4): how many it has. .. FULL": the last bytes that have room, and one more than that. */
    private static void lastBytes() {
        for (int n = 1; n <= 4; n++) {
            PenAcres x = new PenAcres();
            for (int i = 0; i < 120 - n; i++) {
                x.feed(' ', 1);
            }
            Check.due("room for " + n, x.count(1), 120 - n);
            for (int more = n + 1; more <= 4; more++) {
                Check.due("none for " + more, x.feed(0x20202020, more), Check.FULL);
                Check.due("none came", x.count(1), 120 - n);
            }
            Check.due("just " + n, x.feed(0x20202020, n), 120);
            for (int more = 1; more <= 4; more++) {
                Check.due("no room for " + more, x.feed(0x20202020, more), Check.FULL);
            }
            Check.due("full", x.count(1), 120);
            Check.due("a text of blanks ends too early", x.field(), -1 - 120);
            Check.due("there is room again", x.feed(0, 4), 4);
        }
    }

    /** "the n lowest bytes of a number behind it, the highest of these first", whatever its sign. */
    private static void lowestBytes() {
        String text = "smudge 5;dry 5; smudge 41   ";
        for (int n = 1; n <= 4; n++) {
            PenAcres x = new PenAcres();
            for (int at = 0; at < text.length(); at += n) {
                int bytes = -1;
                for (int i = at; i < at + n; i++) {
                    bytes = bytes << 8 | (i < text.length() ? text.charAt(i) : ' ');
                }
                Check.due("by " + n, x.feed(bytes, n), at + n);
            }
            Check.due("read by " + n, x.field(), 3);
            Check.due("smudged by " + n, x.cells(0), Check.set(41));
        }
        PenAcres x = new PenAcres();
        x.feed(0xFF647279, 3);
        x.feed(0x80000020, 1);
        x.feed(0xFFFFFF33, 1);
        Check.due("higher bytes don't come", x.field(), 1);
        x.feed(Integer.MIN_VALUE, 4);
        Check.due("nor do they get lost: byte 128 is none of a token", x.field(), -1);
    }

    private static void promise30() {
        PenAcres x = new PenAcres();
        Check.due("none", x.wipe(), 0);
        Check.feed(x, "smudge 4");
        Check.due("eight", x.wipe(), 8);
        Check.due("none again", x.wipe(), 0);
        Check.due("a text from the beginning", Check.tell(x, "dry 3"), 1);
    }

    private static void fault(String text, int place) {
        PenAcres x = Lands.twoRings();
        x.smudge(30, 1);
        String before = Lands.all(x);
        Check.due("<" + text + ">", Check.tell(x, text), -1 - place);
        Check.due("the tape is empty", x.count(1), 0);
        Check.due("no finding", x.status(-1), 0);
        Check.due("nothing changed by <" + text + ">", before.equals(Lands.all(x)) ? 1 : 0, 1);
    }

    private static void promise31() {
        PenAcres x = new PenAcres();
        Check.due("items", Check.tell(x, "smudge 4; heir at 20 ink 7 up 1 right 2 down 3 back 4;dry 4;left at 0"), 4);
        Check.due("the tape is empty", x.count(1), 0);
        Check.due("hands", x.count(0), 2);
        Check.due("smudged and dried", x.cells(0), 0);
        int[] heir = {4, 20, 7, 0, 4};
        for (int what = 0; what < heir.length; what++) {
            Check.due("the heir", x.of(0, what), heir[what]);
        }
        for (int i = 0; i < 4; i++) {
            Check.due("way", x.told(0, i, 0), i);
            Check.due("length", x.told(0, i, 1), i + 1);
        }
        int[] left = {5, 0, 30, 0, 0, 0, 1};
        for (int what = 0; what < left.length; what++) {
            Check.due("the left one", x.of(1, what), left[what]);
        }
        Check.due("it comes to what there is", Check.tell(x, "hand at 47 ink 999"), 1);
        Check.due("its number", x.of(2, 1), 47);
        Check.due("its ink", x.of(2, 2), 999);
        for (String kind : new String[] {"miser", "duke", "shaky"}) {
            Check.due(kind, Check.tell(x, kind + " at 1 ink 0"), 1);
        }
        int[] kinds = {4, 5, 0, 1, 2, 3};
        for (int h = 0; h < 6; h++) {
            Check.due("kind", x.of(h, 0), kinds[h]);
        }
        Check.due("a 7th", Check.tell(x, "smudge 3 ; hand at 3"), -1 - 11);
        Check.due("nothing smudged", x.cells(0), 0);
        Check.due("no finding", x.status(-1), 0);
    }

    private static void tokens() {
        PenAcres x = new PenAcres();
        Check.due("no blanks where none are needed", Check.tell(x, "hand at3ink5up1;smudge0"), 2);
        Check.due("at", x.of(0, 1), 3);
        Check.due("ink", x.of(0, 2), 5);
        Check.due("a stroke", x.of(0, 4), 1);
        Check.due("blanks anywhere", Check.tell(x, "   dry   0   ;   smudge   5   "), 2);
        Check.due("leading zeros", Check.tell(x, "smudge 0000000000000000000000047"), 1);
        Check.due("smudged", x.cells(0), Check.set(5, 47));
        Check.due("eight strokes", Check.tell(x, "duke at 9 up 1 up 1 up 1 up 1 up 1 up 1 up 1 back 7"), 1);
        Check.due("eight", x.of(1, 4), 8);
        Check.due("after eight an item", Check.tell(x, "duke at 9 up1up1up1up1up1up1up1up1;dry 5"), 2);
        Check.due("the longest text", Check.tell(x,
            "dry1;dry1;dry1;dry1;dry1;dry1;dry1;dry1;dry1;dry1;dry1;dry1;"
                + "dry1;dry1;dry1;dry1;dry1;dry1;dry1;dry1;dry1;dry1;dry1;dry1 "), 24);
    }

    /** "a NUMBER (a CELL)", "(0 to 999)", "(1 to 7)": the least, the greatest and those beside them. */
    private static void numbers() {
        for (int n = 0; n <= 1001; n++) {
            PenAcres x = new PenAcres();
            Check.due("smudge " + n, Check.tell(x, "smudge " + n), n <= 47 ? 1 : -1 - 7);
            Check.due("smudged", x.cells(0), n <= 47 ? 1L << n : 0);
            Check.due("dry " + n, Check.tell(x, "dry " + n), n <= 47 ? 1 : -1 - 4);
            Check.due("dried", x.cells(0), 0);
            Check.due("at " + n, Check.tell(x, "left at " + n), n <= 47 ? 1 : -1 - 8);
            Check.due("hands", x.count(0), n <= 47 ? 1 : 0);
            Check.due("is at", x.of(0, 1), n <= 47 ? n : Check.BEYOND);
            PenAcres y = new PenAcres();
            Check.due("ink " + n, Check.tell(y, "heir at 3 ink " + n), n <= 999 ? 1 : -1 - 14);
            Check.due("has ink", y.of(0, 2), n <= 999 ? n : Check.BEYOND);
            PenAcres z = new PenAcres();
            Check.due("back " + n, Check.tell(z, "duke at 3 back " + n), n >= 1 && n <= 7 ? 1 : -1 - 15);
            Check.due("has length", z.told(0, 0, 1), n >= 1 && n <= 7 ? n : Check.BEYOND);
        }
    }

    /** "at most 120", "for a 7th", "up to 8 STROKES": as many as there may be in one text, and one more. */
    private static void asManyAsCanBe() {
        String six = "hand at 1;duke at 2;left at 3;heir at 4;miser at 5;shaky at 6";
        PenAcres x = new PenAcres();
        Check.due("six at once", Check.tell(x, six), 6);
        int[] kinds = {0, 2, 5, 4, 1, 3};
        for (int hand = 0; hand < 6; hand++) {
            Check.due("kind", x.of(hand, 0), kinds[hand]);
            Check.due("at", x.of(hand, 1), hand + 1);
        }
        String before = Lands.all(x);
        Check.due("one more in a text of its own", Check.tell(x, "hand at 7"), -1);
        Check.due("one more that ends too early", Check.tell(x, "hand"), -1);
        Check.due("nothing changed", before.equals(Lands.all(x)) ? 1 : 0, 1);
        Check.due("smudges still can", Check.tell(x, "smudge 1;dry 1"), 2);
        PenAcres y = new PenAcres();
        Check.due("seven at once", Check.tell(y, six + ";hand at 7"), -1 - six.length() - 1);
        Check.due("none came", y.count(0), 0);
        String eight = "heir at 20 up 1 right 2 down 3 back 4 up 5 right 6 down 7 back 1";
        Check.due("eight strokes", Check.tell(y, eight), 1);
        Check.due("all eight", y.of(0, 4), 8);
        for (int i = 0; i < 8; i++) {
            Check.due("way", y.told(0, i, 0), i % 4);
            Check.due("length", y.told(0, i, 1), 1 + i % 7);
        }
        Check.due("nine", Check.tell(y, eight + " up 1"), -1 - eight.length() - 1);
        Check.due("nine, too early", Check.tell(y, eight + " up"), -1 - eight.length() - 1);
        Check.due("nine, another word", Check.tell(y, eight + " ink"), -1 - eight.length() - 1);
        Check.due("nine, of a NUMBER", Check.tell(y, eight + " 1"), -1 - eight.length() - 1);
        Check.due("none more", y.count(0), 1);
        String long120 = " ".repeat(112) + "smudge 9";
        Check.due("120 bytes", Check.tell(y, long120), 1);
        Check.due("smudged", y.cells(0), Check.set(9));
        Check.due("120 bytes that end too early", Check.tell(y, " ".repeat(111) + "smudge 9;"), -1 - 120);
        Check.due("the last of 120 bytes is at fault", Check.tell(y, " ".repeat(111) + "smudge 9!"), -1 - 119);
        Check.due("a blank at the end of 120", Check.tell(y, " ".repeat(115) + "dry 9"), 1);
        Check.due("digits to the end", Check.tell(y, "smudge " + "0".repeat(112) + "8"), 1);
        Check.due("8", y.cells(0), Check.set(8));
        Check.due("nines to the end", Check.tell(y, "smudge " + "9".repeat(113)), -1 - 7);
        Check.due("letters to the end", Check.tell(y, "smudge " + "a".repeat(113)), -1 - 7);
    }

    /** A hand told in a text is as one that was made by calls: its line, its cost, what it owns. */
    private static void toldHandsWrite() {
        PenAcres x = new PenAcres();
        Check.due("three", Check.tell(x, "hand at 9 right 4 down 3 back 4 up 3; left at 13 ink 40 right 3 down 2 back 3 up 2;smudge 20"), 3);
        PenAcres y = new PenAcres();
        Lands.ring(y, 9, 4, 3);
        y.hand(5, 13);
        Lands.strokes(y, 1, 1, 3, 2, 2, 3, 3, 0, 2);
        y.set(1, 2, 40);
        y.smudge(20, 1);
        for (int hand = 0; hand < 2; hand++) {
            Check.due("line", x.line(hand), y.line(hand));
            Check.due("inside", x.inside(hand), y.inside(hand));
            for (int what = 0; what <= 9; what++) {
                Check.due("of(" + hand + ", " + what + ")", x.of(hand, what), y.of(hand, what));
            }
        }
        Check.due("costs", x.count(3), 28);
        Check.due("owned", x.cells(2), y.cells(2));
        Check.due("a year", x.years(1), y.years(1));
        Check.due("the same", Lands.all(x).equals(Lands.all(y)) ? 1 : 0, 1);
    }

    private static void faults() {
        fault("", 0);
        fault("   ", 3);
        fault("hand", 4);
        fault("hand at", 7);
        fault("hand at  ", 9);
        fault("hand at 48", 8);
        fault("hand at 1000", 8);
        fault("hand at 99999999999999999999", 8);
        fault("hand at 4294967296", 8);
        fault("hand at ;", 8);
        fault("hand 4", 5);
        fault("handat 4", 0);
        fault("hands at 4", 0);
        fault("Hand at 4", 0);
        fault("han at 4", 0);
        fault("land at 4", 0);
        fault("hant at 4", 0);
        fault("smudgy 4", 0);
        fault("drya 4", 0);
        fault("dryz 4", 0);
        fault("hand att 4", 5);
        fault("hand at x", 8);
        fault("hand at 4 ink", 13);
        fault("hand at 4 ink 1000", 14);
        fault("hand at 4 ink up", 14);
        fault("hand at 4 ink 5 ink 5", 16);
        fault("hand at 4 up 1 ink 5", 15);
        fault("hand at 4 5", 10);
        fault("hand at 4 up", 12);
        fault("hand at 4 up 0", 13);
        fault("hand at 4 up 8", 13);
        fault("hand at 4 up up", 13);
        fault("hand at 4 up 1 2", 15);
        fault("hand at 4 left 1", 10);
        fault("hand at 4 backs 1", 10);
        fault("hand at 4 at 4", 10);
        fault("hand at 4 smudge 4", 10);
        fault("hand at 4;", 10);
        fault("hand at 4; ", 11);
        fault("hand at 4;;hand at 4", 10);
        fault("; hand at 4", 0);
        fault("4", 0);
        fault("at 4", 0);
        fault("ink 4", 0);
        fault("up 4", 0);
        fault("smudge", 6);
        fault("smudge 48", 7);
        fault("smudge x", 7);
        fault("smudge 4 5", 9);
        fault("smudge 4 dry 5", 9);
        fault("smudge 4; dry 48", 14);
        fault("dry", 3);
        fault("dry ;", 4);
        fault("smudge 4; dry 30; hand at 3 up 2; shaky", 39);
        fault("smudge\t4", 6);
        fault("smudge 4\n", 8);
        fault("smudge 4" + (char) 0, 8);
        fault("smudge 4" + (char) 255, 8);
        fault("smudge 4.", 8);
        fault("smudge -4", 7);
        fault("smudge 4`", 8);
        fault("smudge 4{", 8);
        fault("smudge 4/", 8);
        fault("smudge 4:", 8);
        // What begins no TOKEN ends a WORD or a NUMBER, too: the letters are a to z, the digits 0 to 9.
        for (char c : new char[] {0, 9, 10, '/', ':', '@', 'A', 'Z', '`', '{', 127, 128, 160, 225, 255}) {
            fault("smudge" + c + "4", 6);
            fault("smudge 4" + c + "5", 8);
            fault("smudge 4;" + c + "dry 4", 9);
            fault(c + "smudge 4", 0);
        }
        // The WORD of a 9th STROKE is the fault, not what comes behind it.
        fault("hand at 4 up1up1up1up1up1up1up1up1 up 9", 35);
        // There are two hands: four more are right, the fifth is a 7th.
        fault("hand at 4;hand at 4;hand at 4;hand at 4;hand at 4", 40);
        fault("hand at 4;hand at 4;hand at 4;hand at 4;hands", 40);
    }

    public static void main(String[] args) {
        promise29();
        lastBytes();
        lowestBytes();
        promise30();
        promise31();
        tokens();
        numbers();
        asManyAsCanBe();
        toldHandsWrite();
        faults();
        Check.end();
    }
}
