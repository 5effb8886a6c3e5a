/** Promises 9 and 10: each fault that read() may meet, its place, and which of two is first. */
public final class FaultsTest {
    private static final Checks c = new Checks("FaultsTest");

    public static void main(String[] args) {
        categoryAndLength();
        behindTheEnd();
        bitsOfRecords();
        placesThatAreNot();
        again();
        going();
        madeBits();
        madeParts();
        ninthRecord();
        lateFaults();
        c.finish();
    }

    /** Looks at a tape of just these bytes: which fault, at which place. */
    private static void tape(String what, int fault, int place, int... bytes) {
        look(Checks.usual(), what, fault, place, bytes);
    }

    private static void look(ReportBlocks x, String what, int fault, int place, int... bytes) {
        Checks.readBlock(x, 48, 0x80, 1, 2);
        Checks.feed(x, bytes);
        c.due(what + ": read()", x.read(), -100 - place);
        c.due(what + ": fault()", x.fault(), fault);
        c.due(what + ": the tape stays", x.count(5), bytes.length);
        c.due(what + ": the record stays", x.number(0, 1, 0), 258);
        c.due(what + ": no block is read", x.count(6), 1);
        c.due(what + ": read() again", x.read(), -100 - place);
    }

    /** The same for a block whose length is as it is due. */
    private static void block(String what, int fault, int place, int... rest) {
        tape(what, fault, place, Checks.block(48, rest));
    }

    private static void good(String what, int records, int... rest) {
        ReportBlocks x = Checks.usual();
        c.due(what, Checks.readBlock(x, 48, rest), records);
        c.due(what + ": fault()", x.fault(), 0);
    }

    private static void categoryAndLength() {
        tape("no category", 1, 0, 47, 0, 4, 0);
        tape("number 0", 1, 0, 0);
        tape("category ahead of length", 1, 0, 47, 0, 3);
        tape("no length", 2, 1, 48);
        tape("half a length", 2, 1, 48, 0);
        tape("half a length, high", 2, 1, 48, 1);
        tape("length 0", 2, 1, 48, 0, 0, 0x80, 1, 2);
        tape("length 3", 2, 1, 48, 0, 3, 0x80, 1, 2);
        tape("length 3 alone", 2, 1, 48, 0, 3);
        tape("length 4 of 3", 2, 1, 48, 0, 4);
        tape("one beyond", 2, 1, 48, 0, 7, 0x80, 1, 2);
        tape("256 beyond", 2, 1, 48, 1, 6, 0x80, 1, 2);
        tape("all ones", 2, 1, 48, 255, 255, 0x80, 1, 2);
        good("the least block", 1, 0x20, 2);
    }

    private static void behindTheEnd() {
        block("fixed 2, none of it", 3, 4, 0x80);
        block("fixed 2, one of it", 3, 5, 0x80, 1);
        tape("fixed 2, its byte behind the block", 3, 5, 48, 0, 5, 0x80, 1, 2, 3);
        block("going, none of it", 3, 4, 0x20);
        block("going that goes on", 3, 6, 0x20, 1, 3);
        block("again, no r", 3, 4, 0x10);
        tape("again, no r, a 0 behind the block", 3, 4, 48, 0, 4, 0x10, 0);
        tape("going, a 0 behind the block", 3, 4, 48, 0, 4, 0x20, 0);
        tape("made, a 0 behind the block", 3, 4, 48, 0, 4, 0x08, 0);
        tape("bits, a 0 behind the block", 3, 4, 48, 0, 4, 0x81, 0);
        block("again, one short", 3, 8, 0x10, 2, 1, 2, 3);
        block("again, none of it", 3, 5, 0x10, 5);
        block("made, no bits", 3, 4, 0x08);
        block("made, no second bits", 3, 5, 0x08, 0x81);
        block("made, no second bits, none in the first", 3, 5, 0x08, 1);
        block("made, no part", 3, 5, 0x08, 0x80);
        block("made, a part one short", 3, 8, 0x08, 0xA0, 1, 2, 3);
        block("the second byte of bits", 3, 4, 0x81);
        block("the third byte of bits", 3, 5, 0x81, 0x41);
        block("the second record's item", 3, 8, 0x80, 1, 2, 0x80, 1);
        good("the second record whole", 2, 0x80, 1, 2, 0x80, 1, 2);
    }

    private static void bitsOfRecords() {
        block("no bits", 4, 3, 0);
        block("no bits, bytes behind", 4, 3, 0, 1, 2);
        block("second byte without", 4, 4, 0x81, 0, 1, 2);
        block("third byte without", 4, 5, 0x81, 0x41, 0, 1, 2);
        block("third byte goes on", 4, 5, 0x81, 0x41, 3, 1, 2);
        block("third byte goes on alone", 4, 5, 1, 1, 1);
        block("no bits behind a record", 4, 6, 0x80, 1, 2, 0);
        block("4 of the second ahead of 5 of the first", 4, 4, 0x05, 0, 1, 2);
        block("3 of the second ahead of 5 of the first", 3, 4, 0x05);
        block("4 of the third ahead of 5 of the first", 4, 5, 0x05, 0x81, 1);
        good("bits in the third alone", 1, 1, 1, 2, 9);
        good("bits in the second alone", 1, 1, 0x40, 1, 2, 3, 4, 5, 6, 7, 8);
    }

    private static void placesThatAreNot() {
        block("place 6", 5, 3, 4);
        block("place 7", 5, 3, 2);
        block("place 6 ahead of a short item", 5, 3, 0x84);
        block("place 8", 5, 4, 1, 0x80);
        block("place 10", 5, 4, 0x81, 0x60, 1, 2);
        block("place 14", 5, 4, 1, 2);
        block("place 16", 5, 5, 1, 1, 0x40);
        block("place 20", 5, 5, 0x81, 0x41, 4);
        block("the leftmost of three", 5, 3, 0x05, 0x81, 0x40);
        block("the leftmost of two", 5, 4, 0x01, 0x81, 0x40);
        block("of the second record", 5, 6, 0x80, 1, 2, 4);
        ReportBlocks x = Checks.usual();
        x.category(7);
        x.item(1, 2, 0, 1);
        look(x, "place 1", 5, 3, 7, 0, 5, 0xC0, 1);
        atTheTapesEnd();
    }

    // A block as long as the tape may be, that asks for a byte more.
    private static void atTheTapesEnd() {
        ReportBlocks x = new ReportBlocks();
        x.category(9);
        x.item(0, 1, 3, 0);
        for (int part = 0; part < 14; part++) {
            x.part(0, 1, part, 4);
        }
        x.item(0, 2, 0, 1);
        x.item(0, 3, 1, 0);
        x.item(0, 4, 2, 1);
        int[] rest = new int[297];
        for (int i = 0; i < 295; i += 59) {
            rest[i] = 0x80;
            rest[i + 1] = 255;
            rest[i + 2] = 254;
        }
        int[][] last = {{0x40, 1}, {0x60, 1}, {0x20, 1}, {0x50, 1}, {0x10, 1}, {1, 1}, {0x80, 1}, {0x80, 0x80}};
        for (int[] two : last) {
            rest[295] = two[0];
            rest[296] = two[1];
            boolean whole = two[0] == 0x40;
            c.due("at the tape's end", Checks.readBlock(x, 9, rest), whole ? 6 : -400);
            c.due("its fault", x.fault(), whole ? 0 : 3);
        }
    }

    private static void again() {
        block("r 0", 6, 4, 0x10, 0);
        block("r 6", 6, 4, 0x10, 6);
        block("r 255", 6, 4, 0x10, 255, 1, 2);
        block("r 6, all there", 6, 4, 0x10, 6, 1, 2, 3, 4, 5, 6, 7, 8, 9, 10, 11, 12);
        good("r 1", 1, 0x10, 1, 1, 2);
        good("r 5", 1, 0x10, 5, 1, 2, 3, 4, 5, 6, 7, 8, 9, 10);
    }

    private static void going() {
        block("a sixth that goes on", 7, 9, 0x20, 1, 1, 1, 1, 1, 1);
        block("a sixth that goes on, a seventh", 7, 9, 0x20, 1, 3, 5, 7, 9, 255, 0);
        good("six", 1, 0x20, 1, 3, 5, 7, 9, 254);
        good("one", 1, 0x20, 0);
        block("five that go on", 3, 9, 0x20, 1, 1, 1, 1, 1);
    }

    private static void madeBits() {
        block("no bits", 4, 4, 0x08, 0);
        block("no second bits", 4, 5, 0x08, 0x81, 0, 1);
        block("second goes on", 4, 5, 0x08, 0x81, 0x41, 1, 2, 3);
        block("second goes on alone", 4, 5, 0x08, 1, 1);
        block("4 of the second ahead of 5 of the first", 4, 5, 0x08, 0x41, 0);
        block("3 of the second ahead of 5 of the first", 3, 5, 0x08, 0x41);
        good("in the second alone", 1, 0x08, 1, 0x40, 1, 2);
        good("in the first alone", 1, 0x08, 0x80, 7);
    }

    private static void madeParts() {
        block("part 1", 5, 4, 0x08, 0x40);
        block("part 6", 5, 4, 0x08, 2);
        block("part 6 ahead of a short part", 5, 4, 0x08, 0x82);
        block("part 7", 5, 5, 0x08, 1, 0x80);
        block("part 12", 5, 5, 0x08, 0x81, 4, 1, 2, 3, 4, 5);
        block("the leftmost of two", 5, 4, 0x08, 0x43, 0x80);
        block("of an item that has a part 8, 9", 5, 5, 0x08, 1, 0x60, 1, 2, 3);
        ReportBlocks x = Checks.usual();
        x.part(0, 5, 0, 0);
        look(x, "part 0", 5, 4, 48, 0, 8, 0x08, 0xA0, 1, 2, 3);
        ReportBlocks y = Checks.usual();
        y.item(0, 6, 3, 0);
        look(y, "an item without parts", 5, 4, 48, 0, 6, 4, 2, 1);
    }

    private static void ninthRecord() {
        int[] eight = new int[16];
        for (int i = 0; i < 16; i += 2) {
            eight[i] = 0x20;
        }
        good("eight", 8, eight);
        ninth("whole", 8, eight, 0x20, 2);
        ninth("its item is not there", 8, eight, 0x20);
        ninth("no bits", 4, eight, 0);
        ninth("no bits, more", 4, eight, 0, 0x20, 2);
        ninth("a place that is not", 5, eight, 0x24, 2);
        ninth("bits that go on to none", 8, eight, 1);
        ninth("bits that go on wrongly", 8, eight, 1, 0);
        ninth("a place that is not in the second byte", 8, eight, 1, 0x80);
        ninth("a place that is not, then wrong bits", 5, eight, 5, 0);
        ninth("its item has a fault", 8, eight, 0x10, 0);
    }

    private static void ninth(String what, int fault, int[] eight, int... more) {
        int[] rest = java.util.Arrays.copyOf(eight, eight.length + more.length);
        System.arraycopy(more, 0, rest, eight.length, more.length);
        block("ninth: " + what, fault, 19, rest);
    }

    // The leftmost fault is the one that counts, also if one behind it has a lower number.
    private static void lateFaults() {
        block("7 ahead of 3", 7, 9, 0x30, 1, 1, 1, 1, 1, 1);
        block("6 ahead of 4", 6, 4, 0x18, 0, 0);
        block("5 of a made one ahead of 4 of the next record", 5, 4, 0x08, 0x40, 0);
        block("good items, then 6", 6, 10, 0xD0, 1, 2, 1, 2, 3, 4, 9);
        tape("a good block behind does not help", 4, 3, 48, 0, 4, 0, 48, 0, 5, 0x20, 2);
    }
}
