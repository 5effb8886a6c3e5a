/** Promises 15 to 20: begin, set, take, write, copy, tape. */
public final class WritingTest {
    private static final int BAD = ReportBlocks.BAD, STATE = ReportBlocks.STATE;
    private static final int FULL = ReportBlocks.FULL, NONE = ReportBlocks.NONE;
    private static final int LEAST = Integer.MIN_VALUE, MOST = Integer.MAX_VALUE;
    private static final Checks c = new Checks("WritingTest");

    public static void main(String[] args) {
        begin();
        set();
        setThatIsRefused();
        take();
        writeAsShortlyAsCanBe();
        writeIsReadBack();
        writeWhenFull();
        longestRecord();
        copy();
        copyRefused();
        tape();
        c.finish();
    }

    private static int setTo(ReportBlocks x, int place, int... bytes) {
        x.tear();
        Checks.feed(x, bytes);
        return x.set(place);
    }

    private static void begin() {
        ReportBlocks x = Checks.usual();
        x.category(7);
        x.item(1, 1, 0, 2);
        c.due("begin(2)", x.begin(2), BAD);
        c.due("begin(-1)", x.begin(-1), BAD);
        c.due("begin(least)", x.begin(LEAST), BAD);
        c.due("begin(most)", x.begin(MOST), BAD);
        c.due("none is begun", x.write(), STATE);
        c.due("begin(0)", x.begin(0), 1);
        c.due("without items", x.write(), STATE);
        setTo(x, 1, 1, 2);
        c.due("a bad one changes nothing", x.begin(3), BAD);
        c.due("the one begun has its item", x.write(), 6);
        c.due("begin(0) again", x.begin(0), 1);
        c.due("the one before is forgotten", x.write(), STATE);
        setTo(x, 1, 1, 2);
        c.due("begin(1)", x.begin(1), 1);
        c.due("the one of another is forgotten", x.take(1), BAD);
        setTo(x, 1, 3, 4);
        c.due("a block of the other", x.write(), 6);
        c.tapeIs("a block of the other", x, 7, 0, 6, 0x80, 3, 4);
    }

    private static void set() {
        ReportBlocks x = Checks.usual();
        x.begin(0);
        c.due("fixed 2", setTo(x, 1, 1, 2), 2);
        c.due("its bytes are gone", x.count(5), 0);
        c.due("fixed 8", setTo(x, 9, 1, 2, 3, 4, 5, 6, 7, 8), 8);
        c.due("going of 1", setTo(x, 3, 0), 1);
        c.due("going of 6", setTo(x, 3, 1, 1, 1, 1, 1, 0), 6);
        c.due("again of 1", setTo(x, 4, 1, 1, 2), 3);
        c.due("again of 5", setTo(x, 4, 5, 1, 2, 3, 4, 5, 6, 7, 8, 9, 10), 11);
        c.due("again of 4 bytes", setTo(x, 15, 1, 1, 2, 3, 4), 5);
        c.due("made of 1 part", setTo(x, 5, 0x80, 9), 2);
        c.due("made of all", setTo(x, 5, 0xA1, 0x42, 1, 2, 3, 4, 5, 6, 7, 8, 9, 10), 12);
        c.due("fixed 2 anew", setTo(x, 1, 3, 4), 2);
        c.due("it has the newer one", x.write(), 3 + 3 + 2 + 6 + 11 + 12 + 8 + 5);
        c.due("its first byte", x.tape(6), 3);
        c.due("its second byte", x.tape(7), 4);
    }

    private static void setThatIsRefused() {
        ReportBlocks x = Checks.usual();
        x.feed(258, 2);
        c.due("none is begun", x.set(1), STATE);
        c.due("none is begun, no item there", x.set(6), STATE);
        c.due("none is begun, no such place", x.set(22), BAD);
        c.due("none is begun, place 0", x.set(0), BAD);
        c.due("the bytes stay", x.count(5), 2);
        x.begin(0);
        for (int place : new int[] {0, 22, -1, LEAST, MOST, 6, 20, 2, 4, 5, 9, 15, 21}) {
            c.due("set(" + place + ")", x.set(place), BAD);
        }
        c.tapeIs("the bytes stay", x, 1, 2);
        c.due("nothing is set", x.write(), STATE);
        int[][] bad = {{1}, {1, 1}, {1, 1, 2, 3}, {3}, {3, 1}, {3, 1, 1, 1, 1, 1, 1}, {3, 0, 0},
            {3, 1, 1, 1, 1, 1, 1, 0}, {3, 2, 2}, {4, 0}, {4, 6, 1, 2, 3, 4, 5, 6, 7, 8, 9, 10, 11, 12}, {4, 1, 1},
            {4, 1, 1, 2, 3}, {4, 2, 1, 2}, {5, 0}, {5, 1, 0}, {5, 0x81, 1}, {5, 0x80}, {5, 0x80, 1, 2},
            {5, 0x40, 1}, {5, 1, 0x80, 1}, {5, 0x81, 0x41, 1, 2, 3}, {9, 1, 2, 3, 4, 5, 6, 7},
            {9, 1, 2, 3, 4, 5, 6, 7, 8, 9}, {21, 1, 2}, {21}};
        for (int[] b : bad) {
            int[] bytes = java.util.Arrays.copyOfRange(b, 1, b.length);
            c.due("not just one item at " + b[0], setTo(x, b[0], bytes), BAD);
            c.due("its bytes stay", x.count(5), bytes.length);
        }
        c.due("nothing is set", x.write(), STATE);
        setTo(x, 1, 7, 8);
        c.due("a bad one leaves", setTo(x, 1, 9), BAD);
        x.tear();
        x.write();
        c.tapeIs("the one before", x, 48, 0, 6, 0x80, 7, 8);
        c.due("no fault of it", x.fault(), 0);
    }

    private static void take() {
        ReportBlocks x = Checks.usual();
        c.due("none is begun", x.take(1), STATE);
        c.due("no such place, none is begun", x.take(0), BAD);
        c.due("no such place either, none is begun", x.take(22), BAD);
        x.begin(0);
        c.due("it has none", x.take(1), BAD);
        setTo(x, 1, 1, 2);
        setTo(x, 5, 0x20, 1, 2, 3);
        for (int place : new int[] {0, 22, -1, LEAST, MOST, 2, 6}) {
            c.due("take(" + place + ")", x.take(place), BAD);
        }
        c.due("take(5)", x.take(5), 4);
        c.due("take(5) again", x.take(5), BAD);
        c.due("a block without it", x.write(), 6);
        c.tapeIs("a block without it", x, 48, 0, 6, 0x80, 1, 2);
        c.due("take(1)", x.take(1), 2);
        c.due("it has no item then", x.write(), STATE);
        c.due("it is still begun", setTo(x, 1, 1, 2), 2);
    }

    private static void writeAsShortlyAsCanBe() {
        ReportBlocks x = new ReportBlocks();
        x.category(200);
        for (int place = 1; place <= 21; place++) {
            x.item(0, place, 0, 1);
        }
        x.begin(0);
        for (int place = 1; place <= 21; place++) {
            setTo(x, place, place);
            int bytes = place <= 7 ? 1 : place <= 14 ? 2 : 3;
            c.due("one item at " + place, x.write(), 4 + bytes);
            int[] want = new int[4 + bytes];
            want[0] = 200;
            want[2] = 4 + bytes;
            for (int i = 0; i < bytes - 1; i++) {
                want[3 + i] = 1;
            }
            want[2 + bytes] = 0x80 >> (place - 1) % 7;
            want[3 + bytes] = place;
            c.tapeIs("one item at " + place, x, want);
            c.due("take it", x.take(place), 1);
        }
        for (int place = 21; place >= 1; place--) {
            setTo(x, place, 100 + place);
        }
        c.due("all of them", x.write(), 27);
        c.due("all bits 1", x.tape(3), 255);
        c.due("all bits 2", x.tape(4), 255);
        c.due("all bits 3", x.tape(5), 254);
        for (int place = 1; place <= 21; place++) {
            c.due("item " + place, x.tape(5 + place), 100 + place);
        }
    }

    private static void writeIsReadBack() {
        ReportBlocks x = Checks.usual();
        x.begin(0);
        setTo(x, 2, 1, 2, 3, 4);
        setTo(x, 5, 0x81, 0x40, 9, 8, 7);
        setTo(x, 15, 2, 1, 2, 3, 4, 5, 6, 7, 8);
        x.feed(99, 1);
        c.due("to the tape's end", x.write(), 3 + 3 + 4 + 5 + 9);
        c.due("the byte ahead stays", x.tape(0), 99);
        x.tear();
        x.write();
        c.due("it stays begun", x.write(), 24);
        c.due("read()", x.read(), 1);
        c.due("one is left", x.count(5), 24);
        c.due("item 2", x.number(0, 2, 0), 0x01020304);
        c.due("part 8", x.number(0, 5, 8), 0x0807);
        c.due("again 1", x.number(0, 15, 1), 0x05060708);
        c.due("it has no other", x.has(0, 1, 0), 0);
    }

    private static void writeWhenFull() {
        ReportBlocks x = Checks.usual();
        x.begin(0);
        setTo(x, 1, 1, 2);
        Checks.feed(x, new int[295]);
        c.due("one byte short", x.write(), FULL);
        c.due("nothing came", x.count(5), 295);
        x.tear();
        Checks.feed(x, new int[294]);
        c.due("just enough", x.write(), 6);
        c.due("it is full", x.count(5), 300);
        x.begin(0);
        c.due("state ahead of full", x.write(), STATE);
    }

    private static void longestRecord() {
        ReportBlocks x = new ReportBlocks();
        x.category(1);
        for (int place = 1; place <= 6; place++) {
            x.item(0, place, 3, 0);
            for (int part = 0; part < 14; part++) {
                x.part(0, place, part, 4);
            }
        }
        x.begin(0);
        int[] item = new int[58];
        item[0] = 255;
        item[1] = 254;
        for (int place = 1; place <= 5; place++) {
            item[57] = place;
            c.due("the longest item", setTo(x, place, item), 58);
        }
        c.due("five of them", x.write(), 4 + 5 * 58);
        c.due("length, high", x.tape(1), 1);
        c.due("length, low", x.tape(2), 294 - 256);
        c.due("the last byte of the first", x.tape(4 + 57), 1);
        c.due("the last byte of the last", x.tape(293), 5);
        c.due("a sixth", setTo(x, 6, item), 58);
        c.due("longer than the tape", x.write(), FULL);
        c.due("take", x.take(6), 58);
        c.due("short again", x.write(), 294);
    }

    private static void copy() {
        ReportBlocks x = Checks.usual();
        int[] rest = {0x20, 3, 2, 0x80, 7, 8, 1, 1, 2, 9, 0x08, 1, 0x40, 5, 6};
        Checks.readBlock(x, 48, rest);
        c.due("copy all", x.copy(0), 18);
        c.tapeIs("copy all", x, Checks.block(48, rest));
        x.tear();
        x.feed(77, 1);
        c.due("without the first", x.copy(1), 15);
        c.tapeIs("without the first", x, 77, 48, 0, 15, 0x80, 7, 8, 1, 1, 2, 9, 0x08, 1, 0x40, 5, 6);
        x.tear();
        c.due("without the last", x.copy(8), 13);
        c.tapeIs("without the last", x, 48, 0, 13, 0x20, 3, 2, 0x80, 7, 8, 1, 1, 2, 9);
        x.tear();
        c.due("the third alone", x.copy(11), 7);
        c.tapeIs("the third alone", x, 48, 0, 7, 1, 1, 2, 9);
        c.due("read back", x.read(), 1);
        c.due("its item", x.number(0, 21, 0), 9);
        copyIsOfTheRecordsAlone();
    }

    // What is on the tape, and a record of one's own, have no part in it.
    private static void copyIsOfTheRecordsAlone() {
        ReportBlocks x = Checks.usual();
        x.category(7);
        x.item(1, 1, 0, 1);
        Checks.readBlock(x, 48, 0x80, 1, 2, 0x80, 3, 4);
        x.begin(1);
        Checks.feed(x, 1, 2, 3);
        c.due("a faulty tape", x.read(), -100);
        c.due("copy", x.copy(2), 6);
        c.tapeIs("copy", x, 1, 2, 3, 48, 0, 6, 0x80, 1, 2);
        c.due("the records stay", x.records(0), 2);
    }

    private static void copyRefused() {
        ReportBlocks x = Checks.usual();
        c.due("no records", x.copy(0), STATE);
        c.due("bits beyond no records", x.copy(1), BAD);
        Checks.readBlock(x, 48, 0x80, 1, 2, 0x80, 3, 4);
        c.due("none left", x.copy(3), STATE);
        for (int without : new int[] {4, 5, 7, 256, -1, LEAST, MOST, 1 << 30, LEAST | 1}) {
            c.due("copy(" + without + ")", x.copy(without), BAD);
        }
        c.due("nothing came", x.count(5), 0);
        Checks.feed(x, new int[292]);
        c.due("one byte short", x.copy(0), FULL);
        c.due("state ahead of full", x.copy(3), STATE);
        c.due("bad ahead of full", x.copy(4), BAD);
        c.due("nothing came", x.count(5), 292);
        c.due("a shorter one", x.copy(1), 6);
        x.tear();
        Checks.feed(x, new int[291]);
        c.due("just enough", x.copy(0), 9);
        Checks.readBlock(x, 48, 0x20, 2, 0x20, 2, 0x20, 2, 0x20, 2, 0x20, 2, 0x20, 2, 0x20, 2, 0x20, 4);
        c.due("eight, none left", x.copy(255), STATE);
        c.due("eight, bits beyond", x.copy(256), BAD);
        c.due("eight, one left", x.copy(127), 5);
        c.tapeIs("eight, one left", x, 48, 0, 5, 0x20, 4);
    }

    private static void tape() {
        ReportBlocks x = new ReportBlocks();
        for (int i : new int[] {0, 1, -1, 300, 299, LEAST, MOST}) {
            c.due("empty: tape(" + i + ")", x.tape(i), NONE);
        }
        x.feed(0x80FF00, 3);
        c.tapeIs("three", x, 0x80, 255, 0);
        c.due("tape(-1)", x.tape(-1), NONE);
        c.due("tape(least)", x.tape(LEAST), NONE);
        c.due("tape(most)", x.tape(MOST), NONE);
        Checks.feed(x, new int[297]);
        c.due("tape(299)", x.tape(299), 0);
        c.due("tape(300)", x.tape(300), NONE);
    }
}
