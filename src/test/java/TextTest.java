/** Promises 29 to 31: feed, wipe, field. */
public final class TextTest {
    private static void promise29() {
        PenAcres x = new PenAcres();
        Check.due("n 0", x.feed(0, 0), Check.BEYOND);
        Check.due("n 5", x.feed(0, 5), Check.BEYOND);
        Check.due("n -1", x.feed(0, -1), Check.BEYOND);
        for (int far : Check.FAR) {
            Check.due("far n", x.feed(0, far), Check.BEYOND);
        }
        Check.due("empty", x.count(1), 0);
        // "dry 7", with bytes above the lowest that must not come.
        Check.due("two", x.feed(0x11116472, 2), 2);
        Check.due("one", x.feed(0x55555579, 1), 3);
        Check.due("two more", x.feed(0x2037, 2), 5);
        x.smudge(7, 1);
        Check.due("the highest first", x.field(), 1);
        Check.due("dry", x.cell(7, 0), 0);
        Check.due("three", x.feed(0x22647279, 3), 3);
        Check.due("four", x.feed(0x20202038, 4), 7);
        x.smudge(8, 1);
        Check.due("read", x.field(), 1);
        Check.due("dry, too", x.cell(8, 0), 0);
        for (int i = 1; i <= 29; i++) {
            Check.due("four more", x.feed(-1, 4), 4 * i);
        }
        Check.due("119", x.feed(0, 3), 119);
        Check.due("two are too many", x.feed(0, 2), Check.FULL);
        Check.due("five are beyond first", x.feed(0, 5), Check.BEYOND);
        Check.due("one is not", x.feed(0, 1), 120);
        Check.due("full", x.feed(0, 1), Check.FULL);
        Check.due("all there", x.count(1), 120);
    }

    private static void promise30() {
        PenAcres x = new PenAcres();
        Check.due("none", x.wipe(), 0);
        Check.feed(x, "smudge 4");
        Check.due("eight", x.wipe(), 8);
        Check.due("none again", x.wipe(), 0);
        Check.due("a text from the beginning", Check.tell(x, "dry 3"), 1);
    }

    private static void fault(String text, int place) {
        PenAcres x = Lands.twoRings();
        x.smudge(30, 1);
        String before = Lands.all(x);
        Check.due("<" + text + ">", Check.tell(x, text), -1 - place);
        Check.due("the tape is empty", x.count(1), 0);
        Check.due("no finding", x.status(-1), 0);
        Check.due("nothing changed by <" + text + ">", before.equals(Lands.all(x)) ? 1 : 0, 1);
    }

    private static void promise31() {
        PenAcres x = new PenAcres();
        Check.due("items", Check.tell(x, "smudge 4; heir at 20 ink 7 up 1 right 2 down 3 back 4;dry 4;left at 0"), 4);
        Check.due("the tape is empty", x.count(1), 0);
        Check.due("hands", x.count(0), 2);
        Check.due("smudged and dried", x.cells(0), 0);
        int[] heir = {4, 20, 7, 0, 4};
        for (int what = 0; what < heir.length; what++) {
            Check.due("the heir", x.of(0, what), heir[what]);
        }
        for (int i = 0; i < 4; i++) {
            Check.due("way", x.told(0, i, 0), i);
            Check.due("length", x.told(0, i, 1), i + 1);
        }
        int[] left = {5, 0, 30, 0, 0, 0, 1};
        for (int what = 0; what < left.length; what++) {
            Check.due("the left one", x.of(1, what), left[what]);
        }
        Check.due("it comes to what there is", Check.tell(x, "hand at 47 ink 999"), 1);
        Check.due("its number", x.of(2, 1), 47);
        Check.due("its ink", x.of(2, 2), 999);
        for (String kind : new String[] {"miser", "duke", "shaky"}) {
            Check.due(kind, Check.tell(x, kind + " at 1 ink 0"), 1);
        }
        int[] kinds = {4, 5, 0, 1, 2, 3};
        for (int h = 0; h < 6; h++) {
            Check.due("kind", x.of(h, 0), kinds[h]);
        }
        Check.due("a 7th", Check.tell(x, "smudge 3 ; hand at 3"), -1 - 11);
        Check.due("nothing smudged", x.cells(0), 0);
        Check.due("no finding", x.status(-1), 0);
    }

    private static void tokens() {
        PenAcres x = new PenAcres();
        Check.due("no blanks where none are needed", Check.tell(x, "hand at3ink5up1;smudge0"), 2);
        Check.due("at", x.of(0, 1), 3);
        Check.due("ink", x.of(0, 2), 5);
        Check.due("a stroke", x.of(0, 4), 1);
        Check.due("blanks anywhere", Check.tell(x, "   dry   0   ;   smudge   5   "), 2);
        Check.due("leading zeros", Check.tell(x, "smudge 0000000000000000000000047"), 1);
        Check.due("smudged", x.cells(0), Check.set(5, 47));
        Check.due("eight strokes", Check.tell(x, "duke at 9 up 1 up 1 up 1 up 1 up 1 up 1 up 1 back 7"), 1);
        Check.due("eight", x.of(1, 4), 8);
        Check.due("after eight an item", Check.tell(x, "duke at 9 up1up1up1up1up1up1up1up1;dry 5"), 2);
        Check.due("the longest text", Check.tell(x,
            "dry1;dry1;dry1;dry1;dry1;dry1;dry1;dry1;dry1;dry1;dry1;dry1;"
                + "dry1;dry1;dry1;dry1;dry1;dry1;dry1;dry1;dry1;dry1;dry1;dry1 "), 24);
    }

    private static void faults() {
        fault("", 0);
        fault("   ", 3);
        fault("hand", 4);
        fault("hand at", 7);
        fault("hand at  ", 9);
        fault("hand at 48", 8);
        fault("hand at 1000", 8);
        fault("hand at 99999999999999999999", 8);
        fault("hand at 4294967296", 8);
        fault("hand at ;", 8);
        fault("hand 4", 5);
        fault("handat 4", 0);
        fault("hands at 4", 0);
        fault("Hand at 4", 0);
        fault("han at 4", 0);
        fault("land at 4", 0);
        fault("hant at 4", 0);
        fault("smudgy 4", 0);
        fault("drya 4", 0);
        fault("dryz 4", 0);
        fault("hand att 4", 5);
        fault("hand at x", 8);
        fault("hand at 4 ink", 13);
        fault("hand at 4 ink 1000", 14);
        fault("hand at 4 ink up", 14);
        fault("hand at 4 ink 5 ink 5", 16);
        fault("hand at 4 up 1 ink 5", 15);
        fault("hand at 4 5", 10);
        fault("hand at 4 up", 12);
        fault("hand at 4 up 0", 13);
        fault("hand at 4 up 8", 13);
        fault("hand at 4 up up", 13);
        fault("hand at 4 up 1 2", 15);
        fault("hand at 4 left 1", 10);
        fault("hand at 4 backs 1", 10);
        fault("hand at 4 at 4", 10);
        fault("hand at 4 smudge 4", 10);
        fault("hand at 4;", 10);
        fault("hand at 4; ", 11);
        fault("hand at 4;;hand at 4", 10);
        fault("; hand at 4", 0);
        fault("4", 0);
        fault("at 4", 0);
        fault("ink 4", 0);
        fault("up 4", 0);
        fault("smudge", 6);
        fault("smudge 48", 7);
        fault("smudge x", 7);
        fault("smudge 4 5", 9);
        fault("smudge 4 dry 5", 9);
        fault("smudge 4; dry 48", 14);
        fault("dry", 3);
        fault("dry ;", 4);
        fault("smudge 4; dry 30; hand at 3 up 2; shaky", 39);
        fault("smudge\t4", 6);
        fault("smudge 4\n", 8);
        fault("smudge 4" + (char) 0, 8);
        fault("smudge 4" + (char) 255, 8);
        fault("smudge 4.", 8);
        fault("smudge -4", 7);
        fault("smudge 4`", 8);
        fault("smudge 4{", 8);
        fault("smudge 4/", 8);
        fault("smudge 4:", 8);
        // What begins no TOKEN ends a WORD or a NUMBER, too: the letters are a to z, the digits 0 to 9.
        for (char c : new char[] {0, 9, 10, '/', ':', '@', 'A', 'Z', '`', '{', 127, 128, 160, 225, 255}) {
            fault("smudge" + c + "4", 6);
            fault("smudge 4" + c + "5", 8);
            fault("smudge 4;" + c + "dry 4", 9);
            fault(c + "smudge 4", 0);
        }
        // The WORD of a 9th STROKE is the fault, not what comes behind it.
        fault("hand at 4 up1up1up1up1up1up1up1up1 up 9", 35);
        // There are two hands: four more are right, the fifth is a 7th.
        fault("hand at 4;hand at 4;hand at 4;hand at 4;hand at 4", 40);
        fault("hand at 4;hand at 4;hand at 4;hand at 4;hands", 40);
    }

    public static void main(String[] args) {
        promise29();
        promise30();
        promise31();
        tokens();
        faults();
        Check.end();
    }
}
