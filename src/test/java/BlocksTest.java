/** Promises 7 to 14: feed, tear, read, fault, records, has, at, number. */
public final class BlocksTest {
    private static final int BAD = ReportBlocks.BAD, STATE = ReportBlocks.STATE;
    private static final int FULL = ReportBlocks.FULL, NONE = ReportBlocks.NONE;
    private static final int LEAST = Integer.MIN_VALUE, MOST = Integer.MAX_VALUE;
    private static final Checks c = new Checks("BlocksTest");

    public static void main(String[] args) {
        feed();
        tear();
        read();
        readLeavesWhatIsBehind();
        longestBlock();
        records();
        whatARecordHas();
        bytesOfItems();
        numbers();
        widestNumbers();
        c.finish();
    }

    private static void feed() {
        ReportBlocks x = new ReportBlocks();
        c.due("feed 0", x.feed(1, 0), BAD);
        c.due("feed 9", x.feed(1, 9), BAD);
        c.due("feed -1", x.feed(1, -1), BAD);
        c.due("feed least", x.feed(1, LEAST), BAD);
        c.due("feed most", x.feed(1, MOST), BAD);
        c.due("feed one of all", x.feed(-2, 1), 1);
        c.due("feed three", x.feed(0x1122334455667788L, 3), 4);
        c.due("feed eight", x.feed(0xFF00800000000001L, 8), 12);
        c.tapeIs("fed", x, 0xFE, 0x66, 0x77, 0x88, 0xFF, 0, 0x80, 0, 0, 0, 0, 1);
        for (int i = 0; i < 36; i++) {
            c.due("feed on", x.feed(i, 8), 20 + 8 * i);
        }
        c.due("feed when full", x.feed(1, 1), FULL);
        c.due("bad ahead of full", x.feed(1, 9), BAD);
        c.due("the last one", x.tape(299), 35);
        c.due("behind the last one", x.tape(300), NONE);
        ReportBlocks y = new ReportBlocks();
        Checks.feed(y, new int[293]);
        c.due("one too many", y.feed(1, 8), FULL);
        c.due("nothing came", y.count(5), 293);
        c.due("just enough", y.feed(1, 7), 300);
    }

    private static void tear() {
        ReportBlocks x = new ReportBlocks();
        x.feed(5, 3);
        c.due("tear", x.tear(), 3);
        c.due("tear an empty one", x.tear(), 0);
        c.due("nothing on it", x.tape(0), NONE);
        c.due("read of it", x.read(), STATE);
        c.due("feed anew", x.feed(7, 1), 1);
        c.due("what is fed", x.tape(0), 7);
    }

    private static void read() {
        ReportBlocks x = Checks.usual();
        c.due("a read with a fault", Checks.readBlock(x, 9, 0), -100);
        c.due("its fault", x.fault(), 1);
        c.due("the tape stays", x.count(5), 4);
        c.due("no block read", x.count(6), 0);
        x.tear();
        c.due("an empty tape", x.read(), STATE);
        c.due("the fault stays", x.fault(), 1);
        c.due("a good one", Checks.readBlock(x, 48, 0x80, 1, 2), 1);
        c.due("no fault", x.fault(), 0);
        c.due("blocks read", x.count(6), 1);
        c.due("then empty", x.read(), STATE);
        c.due("still no fault", x.fault(), 0);
        c.due("eight records", Checks.readBlock(x, 48, 1, 1, 2, 1, 1, 1, 2, 2, 1, 1, 2, 3, 1, 1, 2, 4,
            0x80, 5, 5, 1, 1, 2, 6, 1, 1, 2, 7, 0x20, 3, 3, 2), 8);
        c.due("blocks read", x.count(6), 2);
        c.due("a fault then", Checks.readBlock(x, 48, 0), -103);
        c.due("the records stay", x.records(0), 8);
        c.due("their bytes stay", x.number(1, 21, 0), 2);
        c.due("no more blocks read", x.count(6), 2);
    }

    private static void readLeavesWhatIsBehind() {
        ReportBlocks x = Checks.usual();
        x.category(7);
        x.item(1, 2, 0, 1);
        Checks.feed(x, 48, 0, 6, 0x80, 1, 2, 7, 0, 7, 0x40, 1, 0x40, 2, 99);
        c.due("the first", x.read(), 1);
        c.tapeIs("behind the first", x, 7, 0, 7, 0x40, 1, 0x40, 2, 99);
        c.due("the second", x.read(), 2);
        c.due("its category", x.records(1), 1);
        c.due("its second one", x.number(1, 2, 0), 2);
        c.tapeIs("behind the second", x, 99);
        c.due("the third", x.read(), -100);
        c.tapeIs("the fault leaves it", x, 99);
        c.due("blocks read", x.count(6), 2);
    }

    // Five records of the longest item there is: 298 bytes; then the tape at its fullest.
    private static void longestBlock() {
        ReportBlocks x = new ReportBlocks();
        x.category(255);
        x.item(0, 1, 3, 0);
        for (int part = 0; part < 14; part++) {
            x.part(0, 1, part, 4);
        }
        int[] rest = new int[297];
        for (int record = 0; record < 5; record++) {
            rest[59 * record] = 0x80;
            rest[59 * record + 1] = 0xFF;
            rest[59 * record + 2] = 0xFE;
            rest[59 * record + 58] = record;
        }
        c.due("five records", Checks.readBlock(x, 255, java.util.Arrays.copyOf(rest, 295)), 5);
        c.due("bytes of the last", x.has(4, 1, 0), 58);
        c.due("where it begins", x.has(4, 1, 1), 3 + 4 * 59 + 1);
        c.due("its last part", x.number(4, 1, 13), 4);
        c.due("its last byte", x.at(4, 1, 57), 4);
        rest[295] = 0x80;
        rest[296] = 0x80;
        c.due("a part behind the end", Checks.readBlock(x, 255, rest), -400);
        c.due("its fault", x.fault(), 3);
        c.due("the tape is full", x.count(5), 300);
        c.due("the five stay", x.records(0), 5);
        c.due("and their bytes", x.number(4, 1, 13), 4);
    }

    private static void records() {
        ReportBlocks x = Checks.usual();
        x.category(7);
        x.item(1, 1, 0, 1);
        c.due("none yet", x.records(0), 0);
        c.due("of none", x.records(1), NONE);
        Checks.readBlock(x, 7, 0x80, 1, 0x80, 2);
        c.due("two", x.records(0), 2);
        c.due("of the second", x.records(1), 1);
        c.due("records(2)", x.records(2), BAD);
        c.due("records(-1)", x.records(-1), BAD);
        c.due("records(least)", x.records(LEAST), BAD);
        c.due("records(most)", x.records(MOST), BAD);
    }

    private static void whatARecordHas() {
        ReportBlocks x = Checks.usual();
        Checks.readBlock(x, 48, 0x38, 3, 2, 1, 5, 6, 1 | 0xA0, 2, 9, 8, 7, 6, 4, 3, 2, 1, 1, 1, 2, 55);
        c.due("going: bytes", x.has(0, 3, 0), 2);
        c.due("going: where", x.has(0, 3, 1), 4);
        c.due("again: bytes", x.has(0, 4, 0), 3);
        c.due("again: where", x.has(0, 4, 1), 6);
        c.due("made: bytes", x.has(0, 5, 0), 10);
        c.due("made: where", x.has(0, 5, 1), 9);
        c.due("the second: bytes", x.has(1, 21, 0), 1);
        c.due("the second: where", x.has(1, 21, 1), 22);
        c.due("an item that it has not", x.has(0, 1, 0), 0);
        c.due("where that is", x.has(0, 1, 1), NONE);
        c.due("a place without an item", x.has(1, 20, 0), 0);
        c.due("where that is", x.has(1, 20, 1), NONE);
        c.due("the other record's item", x.has(1, 3, 0), 0);
        int[][] bad = {{2, 1, 0}, {-1, 1, 0}, {8, 1, 0}, {0, 0, 0}, {0, 22, 0}, {0, 3, 2}, {0, 3, -1},
            {LEAST, 3, 0}, {MOST, 3, 0}, {0, LEAST, 0}, {0, MOST, 0}, {0, 3, LEAST}, {0, 3, MOST}};
        for (int[] b : bad) {
            c.due("has of bad numbers", x.has(b[0], b[1], b[2]), BAD);
        }
        Checks.readBlock(x, 48, 1, 1, 2, 1, 1, 1, 2, 2, 1, 1, 2, 3, 1, 1, 2, 4, 1, 1, 2, 5, 1, 1, 2, 6,
            1, 1, 2, 7, 0x81, 1, 2, 9, 9, 8);
        c.due("the last place of the last record", x.has(7, 21, 1), 36);
        c.due("its number", x.number(7, 21, 0), 8);
        c.due("its first", x.number(7, 1, 0), 0x0909);
        c.due("the last place of the one ahead", x.at(6, 21, 0), 7);
        x.tear();
        c.due("a shorter one", Checks.readBlock(x, 48, 0x80, 1, 2), 1);
        c.due("items of earlier ones are gone", x.has(0, 21, 0), 0);
        c.due("records of earlier ones are gone", x.has(1, 21, 0), BAD);
        Checks.readBlock(x, 48, 0x40, 1, 2, 3, 4);
        c.due("items of the first one are gone", x.has(0, 21, 0), 0);
        c.due("items of the second one are gone", x.has(0, 1, 1), NONE);
        Checks.readBlock(x, 48, 0x88, 1, 2, 0);
        c.due("items of a faulty one", x.has(0, 1, 0), 0);
        Checks.readBlock(x, 48, 0x20, 2);
        c.due("items of a faulty one, later", x.has(0, 1, 0), 0);
    }

    private static void bytesOfItems() {
        ReportBlocks x = Checks.usual();
        Checks.readBlock(x, 48, 0x30, 0xFF, 0x80, 2, 0, 255, 128, 127);
        int[] going = {0xFF, 0x80};
        int[] again = {2, 0, 255, 128, 127};
        for (int i = 0; i < going.length; i++) {
            c.due("going " + i, x.at(0, 3, i), going[i]);
        }
        for (int i = 0; i < again.length; i++) {
            c.due("again " + i, x.at(0, 4, i), again[i]);
        }
        c.due("behind going", x.at(0, 3, 2), NONE);
        c.due("behind again", x.at(0, 4, 5), NONE);
        c.due("ahead", x.at(0, 4, -1), NONE);
        c.due("far behind", x.at(0, 4, MOST), NONE);
        c.due("far ahead", x.at(0, 4, LEAST), NONE);
        c.due("of none", x.at(0, 1, 0), NONE);
        c.due("of a place without", x.at(0, 20, 0), NONE);
        int[][] bad = {{1, 3, 0}, {-1, 3, 0}, {0, 0, 0}, {0, 22, 0}, {MOST, 3, 0}, {LEAST, 3, 0},
            {0, MOST, 0}, {0, LEAST, 0}};
        for (int[] b : bad) {
            c.due("at of bad numbers", x.at(b[0], b[1], b[2]), BAD);
        }
    }

    private static void numbers() {
        ReportBlocks x = Checks.usual();
        Checks.readBlock(x, 48, 0xF9, 0x41, 0x82, 0xFF, 0xFE, 0x80, 0, 0, 1, 7, 0, 2, 0xAB, 0xCD, 0x80, 1,
            0xA1, 0x42, 0xEE, 0xFF, 1, 2, 0x80, 0x81, 0xFF, 0xFF, 0xFF, 0xFE,
            0xFF, 0xFF, 0xFF, 0xFF, 0xFF, 0xFF, 0xFF, 0xFD, 1, 0xFF, 0xFF, 0xFF, 0xFF, 200);
        c.due("its fault", x.fault(), 0);
        c.due("fixed 2", x.number(0, 1, 0), 0xFFFE);
        c.due("fixed 4", x.number(0, 2, 0), 0x80000001L);
        c.due("fixed, i 1", x.number(0, 1, 1), NONE);
        c.due("fixed, i -1", x.number(0, 1, -1), NONE);
        c.due("going", x.number(0, 3, 0), NONE);
        c.due("again 0", x.number(0, 4, 0), 0xABCD);
        c.due("again 1", x.number(0, 4, 1), 0x8001);
        c.due("again 2", x.number(0, 4, 2), NONE);
        c.due("again -1", x.number(0, 4, -1), NONE);
        c.due("made 0", x.number(0, 5, 0), 0xEE);
        c.due("made 1", x.number(0, 5, 1), NONE);
        c.due("made 2", x.number(0, 5, 2), 0xFF0102);
        c.due("made 8", x.number(0, 5, 8), 0x8081);
        c.due("made 13", x.number(0, 5, 13), 0xFFFFFFFEL);
        c.due("made 12", x.number(0, 5, 12), NONE);
        c.due("made 14", x.number(0, 5, 14), NONE);
        c.due("made most", x.number(0, 5, MOST), NONE);
        c.due("made least", x.number(0, 5, LEAST), NONE);
        c.due("fixed 8", x.number(0, 9, 0), -3);
        c.due("again of 4", x.number(0, 15, 0), 0xFFFFFFFFL);
        c.due("again of 4, most", x.number(0, 15, MOST), NONE);
        c.due("again of 4, i 1 << 30", x.number(0, 15, 1 << 30), NONE);
        c.due("fixed 1", x.number(0, 21, 0), 200);
        c.due("a place without", x.number(0, 20, 0), NONE);
        int[][] bad = {{1, 1, 0}, {-1, 1, 0}, {0, 0, 0}, {0, 22, 0}, {MOST, 1, 0}, {LEAST, 1, 0},
            {0, MOST, 0}, {0, LEAST, 0}};
        for (int[] b : bad) {
            c.due("number of bad numbers", x.number(b[0], b[1], b[2]), BAD);
        }
        Checks.readBlock(x, 48, 0x08, 0x20, 1, 2, 3);
        c.due("made, one byte of bits", x.number(0, 5, 2), 0x010203);
        c.due("made, a part beyond its bits", x.number(0, 5, 8), NONE);
        c.due("an item that it has not", x.number(0, 1, 0), NONE);
    }

    private static void widestNumbers() {
        ReportBlocks x = Checks.usual();
        Checks.readBlock(x, 48, 1, 0x40, 0x80, 0, 0, 0, 0, 0, 0, 0);
        c.due("least of 8 bytes", x.number(0, 9, 0), Long.MIN_VALUE);
        Checks.readBlock(x, 48, 1, 0x40, 0x7F, 255, 255, 255, 255, 255, 255, 255);
        c.due("most of 8 bytes", x.number(0, 9, 0), Long.MAX_VALUE);
        Checks.readBlock(x, 48, 1, 1, 0x80, 5, 0, 0, 0, 0, 0, 0, 0, 1, 0, 0, 0, 2, 0, 0, 0, 3, 0, 0, 0, 4);
        for (int i = 0; i < 5; i++) {
            c.due("again " + i, x.number(0, 15, i), i);
        }
        c.due("again 5", x.number(0, 15, 5), NONE);
    }
}
