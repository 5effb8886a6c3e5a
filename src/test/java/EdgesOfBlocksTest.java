import java.util.Arrays;

/** Each sentence of promises 7 to 14 that names a boundary. */
public final class EdgesOfBlocksTest {
    private static final int BAD = ReportBlocks.BAD, STATE = ReportBlocks.STATE;
    private static final int FULL = ReportBlocks.FULL, NONE = ReportBlocks.NONE;
    private static final int LEAST = Integer.MIN_VALUE, MOST = Integer.MAX_VALUE;
    private static final Checks c = new Checks("EdgesOfBlocksTest");

    public static void main(String[] args) {
        feed();
        feedBad();
        feedFull();
        tear();
        readTheFirst();
        goneFromTheTape();
        faultyRead();
        readStays();
        readAnEmptyTape();
        faultOfTheLatest();
        faultButOfState();
        noFault();
        howManyRecords();
        theirCategory();
        recordsBad();
        hasBytes();
        hasBegin();
        hasBad();
        at();
        atNone();
        atBad();
        numberOfFixed();
        numberOfAgain();
        numberOfMade();
        numberOfEightBytes();
        numberNone();
        numberBad();
        c.finish();
    }

    private static ReportBlocks of(int kind, int n) {
        ReportBlocks x = new ReportBlocks();
        x.category(9);
        x.item(0, 1, kind, n);
        return x;
    }

    private static void feed() {
        c.sentence("n (1 .. 8) bytes come to THE TAPE, the highest one of the n lowest first: how many it has.");
        ReportBlocks x = new ReportBlocks();
        int[] bytes = {0x81, 2, 0xF3, 4, 5, 0xA6, 7, 0xFE};
        int size = 0;
        for (int n = 1; n <= 8; n++) {
            size += n;
            c.due("feed of " + n, x.feed(0x8102F30405A607FEL, n), size);
            for (int i = 0; i < n; i++) {
                c.due("byte " + i + " of " + n, x.tape(size - n + i), bytes[8 - n + i]);
            }
        }
        c.due("all ones", x.feed(-1L, 8), size + 8);
        c.due("the first of it", x.tape(size), 255);
        c.due("the last of it", x.tape(size + 7), 255);
        c.due("the least", x.feed(Long.MIN_VALUE, 8), size + 16);
        c.due("the first of it", x.tape(size + 8), 128);
        c.due("the second of it", x.tape(size + 9), 0);
        c.due("the higher ones are not looked at", x.feed(Long.MIN_VALUE | 5, 1), size + 17);
        c.due("the lowest", x.tape(size + 16), 5);
    }

    private static void feedBad() {
        c.sentence("how many it has. BAD");
        ReportBlocks x = new ReportBlocks();
        for (int n : new int[] {0, 9, -1, 10, 16, LEAST, MOST, -8, 64, 257}) {
            c.due("feed of " + n, x.feed(1, n), BAD);
        }
        c.due("nothing came", x.count(5), 0);
        Checks.feed(x, new int[300]);
        c.due("feed of 0, full", x.feed(1, 0), BAD);
        c.due("feed of 9, full", x.feed(1, 9), BAD);
    }

    private static void feedFull() {
        c.sentence("BAD; FULL.");
        for (int n = 1; n <= 8; n++) {
            ReportBlocks x = new ReportBlocks();
            Checks.feed(x, new int[300 - n]);
            if (n < 8) {
                c.due("one too many", x.feed(-1, n + 1), FULL);
                c.due("none of them came", x.count(5), 300 - n);
            }
            c.due("just enough", x.feed(-1, n), 300);
            c.due("no more", x.feed(-1, 1), FULL);
            c.due("nor so many", x.feed(-1, n), FULL);
            c.due("how many", x.count(5), 300);
        }
    }

    private static void tear() {
        c.sentence("THE TAPE is empty: how many it had.");
        ReportBlocks x = of(0, 1);
        c.due("empty", x.tear(), 0);
        x.feed(7, 1);
        c.due("one", x.tear(), 1);
        c.due("it is empty", x.tape(0), NONE);
        c.due("once more", x.tear(), 0);
        Checks.readBlock(x, 9, 0x80, 5);
        Checks.feed(x, new int[300]);
        c.due("full", x.tear(), 300);
        c.due("it is empty", x.read(), STATE);
        c.due("the records stay", x.number(0, 1, 0), 5);
        c.due("as many again", Checks.feed(x, new int[300]), 300);
    }

    private static void readTheFirst() {
        c.sentence("The first BLOCK of THE TAPE is read");
        ReportBlocks x = of(0, 1);
        Checks.feed(x, 9, 0, 5, 0x80, 1, 9, 0, 7, 0x80, 2, 0x80, 3, 9, 0, 5, 0x80, 4);
        c.due("the first", x.read(), 1);
        c.due("its item", x.number(0, 1, 0), 1);
        c.due("the second", x.read(), 2);
        c.due("its item", x.number(1, 1, 0), 3);
        c.due("the third", x.read(), 1);
        c.due("its item", x.number(0, 1, 0), 4);
        c.due("no fourth", x.read(), STATE);
    }

    private static void goneFromTheTape() {
        c.sentence("and gone from it then: how many RECORDS.");
        ReportBlocks x = of(0, 1);
        Checks.feed(x, 9, 0, 5, 0x80, 1, 77, 78);
        c.due("one", x.read(), 1);
        c.tapeIs("what was behind", x, 77, 78);
        x.tear();
        int[] eight = new int[16];
        for (int i = 0; i < 16; i++) {
            eight[i] = i % 2 == 0 ? 0x80 : i;
        }
        Checks.feed(x, Checks.block(9, eight));
        c.due("eight", x.read(), 8);
        c.tapeIs("nothing was behind", x);
        Checks.feed(x, 9, 0, 5, 0x80, 1);
        Checks.feed(x, new int[295]);
        c.due("of a full tape", x.read(), 1);
        c.due("the rest", x.count(5), 295);
    }

    private static void faultyRead() {
        c.sentence("-100 less the place of a FAULT");
        ReportBlocks x = of(0, 8);
        c.due("place 0", Checks.readBlock(x, 8, 0x80), -100);
        x.tear();
        x.feed(9, 1);
        c.due("place 1", x.read(), -101);
        c.due("place 3", Checks.readBlock(x, 9, 0), -103);
        c.due("place 4", Checks.readBlock(x, 9, 0x80), -104);
        for (int place = 4; place <= 14; place++) {
            x.item(0, place, 0, 8);
        }
        int[] rest = new int[297];
        for (int next = 0; next < 270; next += 90) {
            rest[next] = 0x1F;
            rest[next + 1] = 0xFE;
        }
        c.due("place 272", Checks.readBlock(x, 9, Arrays.copyOf(rest, 269)), -372);
        c.due("one byte more", Checks.readBlock(x, 9, Arrays.copyOf(rest, 270)), 3);
        rest[270] = 0x98;
        rest[295] = 0x80;
        c.due("place 300", Checks.readBlock(x, 9, rest), -400);
    }

    private static void readStays() {
        c.sentence("(THE TAPE, the RECORDS stay)");
        ReportBlocks x = of(0, 1);
        x.item(0, 2, 0, 2);
        c.due("read()", Checks.readBlock(x, 9, 0xC0, 1, 2, 3, 0x80, 4), 2);
        Checks.feed(x, 9, 0, 8, 0x40, 5, 6, 0xC0, 7, 9);
        c.due("a fault in the second record", x.read(), -108);
        c.due("and again", x.read(), -108);
        c.tapeIs("the tape stays", x, 9, 0, 8, 0x40, 5, 6, 0xC0, 7, 9);
        c.due("how many records", x.records(0), 2);
        c.due("their category", x.records(1), 0);
        c.due("item 1 of the first", x.number(0, 1, 0), 1);
        c.due("item 2 of the first", x.number(0, 2, 0), 0x0203);
        c.due("item 1 of the second", x.number(1, 1, 0), 4);
        c.due("blocks read", x.count(6), 1);
        x.tear();
        c.due("copy", x.copy(0), 9);
        c.tapeIs("copy", x, 9, 0, 9, 0xC0, 1, 2, 3, 0x80, 4);
    }

    private static void readAnEmptyTape() {
        c.sentence("STATE: THE TAPE is empty.");
        ReportBlocks x = of(0, 1);
        c.due("new", x.read(), STATE);
        x.feed(0, 1);
        c.due("a byte is not empty", x.read(), -100);
        x.tear();
        c.due("torn", x.read(), STATE);
        Checks.readBlock(x, 9, 0x80, 1);
        c.due("all read", x.read(), STATE);
        c.due("the records stay", x.number(0, 1, 0), 1);
        c.due("blocks read", x.count(6), 1);
    }

    private static void faultOfTheLatest() {
        c.sentence("The FAULT of the latest read()");
        ReportBlocks x = new ReportBlocks();
        x.category(9);
        x.item(0, 1, 0, 1);
        x.item(0, 2, 1, 0);
        x.item(0, 3, 2, 1);
        int[][] rests = {{0x80}, {0}, {0x08}, {0x20, 0}, {0x40, 1, 1, 1, 1, 1, 1},
            {0x80, 1, 0x80, 1, 0x80, 1, 0x80, 1, 0x80, 1, 0x80, 1, 0x80, 1, 0x80, 1, 0x80}};
        x.feed(8, 1);
        x.read();
        c.due("fault 1", x.fault(), 1);
        x.tear();
        x.feed(9, 1);
        x.read();
        c.due("fault 2", x.fault(), 2);
        for (int i = 0; i < rests.length; i++) {
            Checks.readBlock(x, 9, rests[i]);
            c.due("fault " + (i + 3), x.fault(), i + 3);
            c.due("it stays", x.fault(), i + 3);
        }
        x.begin(0);
        x.tear();
        x.feed(0, 1);
        c.due("a set that is refused", x.set(3), BAD);
        c.due("is no read()", x.fault(), 8);
    }

    private static void faultButOfState() {
        c.sentence("that was not STATE");
        ReportBlocks x = of(0, 1);
        c.due("empty", x.read(), STATE);
        c.due("none yet", x.fault(), 0);
        Checks.readBlock(x, 9, 0);
        x.tear();
        c.due("empty", x.read(), STATE);
        c.due("of the one before", x.fault(), 4);
        Checks.readBlock(x, 9, 0x80, 1);
        c.due("empty", x.read(), STATE);
        c.due("none of the one before", x.fault(), 0);
    }

    private static void noFault() {
        c.sentence("The FAULT of the latest read() that was not STATE; 0.");
        ReportBlocks x = of(0, 1);
        c.due("new", x.fault(), 0);
        Checks.readBlock(x, 9, 0x80, 1);
        c.due("read", x.fault(), 0);
        Checks.readBlock(x, 9, 0);
        c.due("a fault", x.fault(), 4);
        Checks.readBlock(x, 9, 0x80, 1);
        c.due("read after it", x.fault(), 0);
    }

    private static void howManyRecords() {
        c.sentence("Of the RECORDS: 0 how many");
        ReportBlocks x = of(0, 1);
        c.due("none", x.records(0), 0);
        int[] rest = new int[18];
        for (int n = 1; n <= 8; n++) {
            rest[2 * n - 2] = 0x80;
            Checks.readBlock(x, 9, Arrays.copyOf(rest, 2 * n));
            c.due("of " + n, x.records(0), n);
        }
        rest[16] = 0x80;
        Checks.readBlock(x, 9, rest);
        c.due("nine are not read", x.records(0), 8);
        Checks.readBlock(x, 9, 0x80, 1);
        c.due("one again", x.records(0), 1);
    }

    private static void theirCategory() {
        c.sentence("1 their CATEGORY (0 .. 2; NONE without)");
        ReportBlocks x = of(0, 1);
        x.category(10);
        x.category(11);
        x.item(1, 1, 0, 1);
        x.item(2, 1, 0, 1);
        c.due("without", x.records(1), NONE);
        Checks.readBlock(x, 11, 0x80);
        c.due("without, after a fault", x.records(1), NONE);
        Checks.readBlock(x, 11, 0x80, 1);
        c.due("of the third", x.records(1), 2);
        Checks.readBlock(x, 9, 0x80, 1);
        c.due("of the first", x.records(1), 0);
        Checks.readBlock(x, 10, 0x80, 1);
        c.due("of the second", x.records(1), 1);
        Checks.readBlock(x, 11, 0x80);
        c.due("of the second still", x.records(1), 1);
    }

    private static void recordsBad() {
        c.sentence("NONE without). BAD.");
        ReportBlocks x = of(0, 1);
        for (int what : new int[] {2, -1, 3, LEAST, MOST}) {
            c.due("without: records(" + what + ")", x.records(what), BAD);
        }
        Checks.readBlock(x, 9, 0x80, 1);
        for (int what : new int[] {2, -1, 3, LEAST, MOST}) {
            c.due("records(" + what + ")", x.records(what), BAD);
        }
    }

    /** Two records of places 1 FIXED 2, 2 GOING, 3 AGAIN 4, 4 MADE (parts 0: 1 byte, 13: 4), 21 FIXED 8. */
    private static ReportBlocks twoRecords() {
        ReportBlocks x = of(0, 2);
        x.item(0, 2, 1, 0);
        x.item(0, 3, 2, 4);
        x.item(0, 4, 3, 0);
        x.part(0, 4, 0, 1);
        x.part(0, 4, 13, 4);
        x.item(0, 21, 0, 8);
        c.due("two records", Checks.readBlock(x, 9, 0xF1, 1, 2, 0xFF, 0xFE, 1, 3, 5, 6, 2, 0xFF, 0, 0, 1, 0, 0, 0, 2,
            0x81, 2, 200, 0x80, 0, 0, 3, 1, 2, 3, 4, 5, 6, 7, 8, 0x40, 0), 2);
        return x;
    }

    private static void hasBytes() {
        c.sentence("Of an ITEM of a RECORD: 0 how many bytes (0: it has none)");
        ReportBlocks x = twoRecords();
        int[] sizes = {2, 4, 9, 7, 0, 0};
        for (int place = 1; place <= 6; place++) {
            c.due("bytes at " + place, x.has(0, place, 0), sizes[place - 1]);
            c.due("bytes of the second at " + place, x.has(1, place, 0), place == 2 ? 1 : 0);
        }
        c.due("bytes at 21", x.has(0, 21, 0), 8);
        c.due("bytes at 20", x.has(0, 20, 0), 0);
    }

    private static void hasBegin() {
        c.sentence("1 where it begins in the BLOCK (NONE)");
        ReportBlocks x = twoRecords();
        int[] begins = {6, 8, 12, 21, NONE, NONE};
        for (int place = 1; place <= 6; place++) {
            c.due("begin at " + place, x.has(0, place, 1), begins[place - 1]);
            c.due("begin of the second at " + place, x.has(1, place, 1), place == 2 ? 37 : NONE);
        }
        c.due("begin at 21", x.has(0, 21, 1), 28);
        x.tear();
        Checks.feed(x, 9, 0, 5, 0x40, 0, 9, 0, 6, 0x80, 1, 2);
        x.read();
        c.due("of the first block", x.has(0, 2, 1), 4);
        x.read();
        c.due("of the second block, in it", x.has(0, 1, 1), 4);
        c.due("of the one before", x.has(0, 2, 1), NONE);
    }

    private static void hasBad() {
        c.sentence("1 where it begins in the BLOCK (NONE). BAD.");
        ReportBlocks x = new ReportBlocks();
        c.due("no record", x.has(0, 1, 0), BAD);
        x = twoRecords();
        int[][] bad = {{2, 1, 0}, {8, 1, 0}, {-1, 1, 0}, {LEAST, 1, 0}, {MOST, 1, 0}, {0, 0, 0}, {0, 22, 0},
            {0, -1, 1}, {0, LEAST, 0}, {0, MOST, 1}, {0, 1, -1}, {0, 1, 2}, {0, 5, 2}, {0, 1, LEAST}, {0, 1, MOST}};
        for (int[] b : bad) {
            c.due(Arrays.toString(b), x.has(b[0], b[1], b[2]), BAD);
        }
    }

    private static void at() {
        c.sentence("Byte i of an ITEM of a RECORD");
        ReportBlocks x = twoRecords();
        int[][] items = {{0xFF, 0xFE}, {1, 3, 5, 6}, {2, 0xFF, 0, 0, 1, 0, 0, 0, 2}, {0x81, 2, 200, 0x80, 0, 0, 3}};
        for (int place = 1; place <= 4; place++) {
            for (int i = 0; i < items[place - 1].length; i++) {
                c.due("byte " + i + " at " + place, x.at(0, place, i), items[place - 1][i]);
            }
        }
        c.due("the last of all", x.at(0, 21, 7), 8);
        c.due("of the second record", x.at(1, 2, 0), 0);
    }

    private static void atNone() {
        c.sentence("Byte i of an ITEM of a RECORD; NONE.");
        ReportBlocks x = twoRecords();
        int[] sizes = {2, 4, 9, 7, 0, 0};
        for (int place = 1; place <= 6; place++) {
            for (int i : new int[] {sizes[place - 1], sizes[place - 1] + 1, 300, MOST, -1, LEAST}) {
                c.due("byte " + i + " at " + place, x.at(0, place, i), NONE);
            }
        }
        c.due("behind the last of all", x.at(0, 21, 8), NONE);
        c.due("of the second record", x.at(1, 2, 1), NONE);
        c.due("which has none there", x.at(1, 1, 0), NONE);
    }

    private static void atBad() {
        c.sentence("Byte i of an ITEM of a RECORD; NONE. BAD.");
        ReportBlocks x = new ReportBlocks();
        c.due("no record", x.at(0, 1, 0), BAD);
        x = twoRecords();
        int[][] bad = {{2, 1, 0}, {8, 1, 0}, {-1, 1, 0}, {LEAST, 1, 0}, {MOST, 1, 0}, {0, 0, 0}, {0, 22, 0},
            {0, -1, 1}, {0, LEAST, 0}, {0, MOST, 1}, {2, 1, 300}, {0, 22, -1}};
        for (int[] b : bad) {
            c.due(Arrays.toString(b), x.at(b[0], b[1], b[2]), BAD);
        }
    }

    private static void numberOfFixed() {
        c.sentence("An ITEM's bytes (a FIXED one's with i 0");
        ReportBlocks x = twoRecords();
        c.due("of 2 bytes", x.number(0, 1, 0), 0xFFFE);
        c.due("of 8 bytes", x.number(0, 21, 0), 0x0102030405060708L);
        for (int i : new int[] {1, 2, -1, LEAST, MOST, 256}) {
            c.due("with i " + i, x.number(0, 1, i), NONE);
        }
    }

    private static void numberOfAgain() {
        c.sentence("the i-th of AGAIN");
        ReportBlocks x = twoRecords();
        c.due("the first", x.number(0, 3, 0), 0xFF000001L);
        c.due("the second", x.number(0, 3, 1), 2);
        for (int i : new int[] {2, 3, -1, LEAST, MOST, 1 << 30}) {
            c.due("with i " + i, x.number(0, 3, i), NONE);
        }
        Checks.readBlock(x, 9, 0x20, 5, 0, 0, 0, 1, 0, 0, 0, 2, 0, 0, 0, 3, 0, 0, 0, 4, 0, 0, 0, 5);
        for (int i = 0; i < 5; i++) {
            c.due("of five, " + i, x.number(0, 3, i), i + 1);
        }
        c.due("no sixth", x.number(0, 3, 5), NONE);
        Checks.readBlock(x, 9, 0x20, 1, 0, 0, 0, 1, 0x20, 2, 0, 0, 0, 7, 0, 0, 0, 8);
        c.due("of one, the first", x.number(0, 3, 0), 1);
        c.due("of one, no second", x.number(0, 3, 1), NONE);
        c.due("of the next record", x.number(1, 3, 1), 8);
    }

    private static void numberOfMade() {
        c.sentence("the PART i of MADE)");
        ReportBlocks x = twoRecords();
        c.due("part 0", x.number(0, 4, 0), 200);
        c.due("part 13", x.number(0, 4, 13), 0x80000003L);
        for (int i : new int[] {1, 6, 7, 12, 14, 15, -1, LEAST, MOST}) {
            c.due("with i " + i, x.number(0, 4, i), NONE);
        }
        Checks.readBlock(x, 9, 0x10, 0x80, 9);
        c.due("part 0 alone", x.number(0, 4, 0), 9);
        c.due("no part 13", x.number(0, 4, 13), NONE);
        Checks.readBlock(x, 9, 0x10, 1, 2, 0, 0, 0, 5);
        c.due("part 13 alone", x.number(0, 4, 13), 5);
        c.due("no part 0", x.number(0, 4, 0), NONE);
        partsOfSeveralBytes();
    }

    private static void partsOfSeveralBytes() {
        ReportBlocks x = of(3, 0);
        int[] parts = {0, 5, 8, 13};
        long[] numbers = {0xFFFFFFFFL, 0x800001, 0x0203, 4};
        for (int i = 0; i < 4; i++) {
            x.part(0, 1, parts[i], 4 - i);
        }
        Checks.readBlock(x, 9, 0x80, 0x85, 0x42, 255, 255, 255, 255, 128, 0, 1, 2, 3, 4);
        for (int i = 0; i < 4; i++) {
            c.due("of several, part " + parts[i], x.number(0, 1, parts[i]), numbers[i]);
        }
        Checks.readBlock(x, 9, 0x80, 5, 0x42, 128, 0, 1, 2, 3, 4);
        c.due("without the first, part 0", x.number(0, 1, 0), NONE);
        for (int i = 1; i < 4; i++) {
            c.due("without the first, part " + parts[i], x.number(0, 1, parts[i]), numbers[i]);
        }
    }

    private static void numberOfEightBytes() {
        c.sentence("as one number, the first byte the highest (of 8 bytes as Java's long has it)");
        int[][] items = {{255, 255, 255, 255, 255, 255, 255, 255}, {128, 0, 0, 0, 0, 0, 0, 0},
            {127, 255, 255, 255, 255, 255, 255, 255}, {255, 255, 255, 255, 255, 255, 255, 247}, {1, 2, 3, 4, 5, 6, 7, 8}};
        long[] numbers = {-1, Long.MIN_VALUE, Long.MAX_VALUE, -9, 0x0102030405060708L};
        ReportBlocks x = of(0, 8);
        for (int i = 0; i < items.length; i++) {
            int[] rest = new int[9];
            rest[0] = 0x80;
            System.arraycopy(items[i], 0, rest, 1, 8);
            Checks.readBlock(x, 9, rest);
            c.due("of 8 bytes", x.number(0, 1, 0), numbers[i]);
        }
        for (int n = 1; n < 8; n++) {
            ReportBlocks y = of(0, n);
            int[] rest = new int[n + 1];
            Arrays.fill(rest, 255);
            rest[0] = 0x80;
            Checks.readBlock(y, 9, rest);
            c.due("the highest of " + n + " bytes", y.number(0, 1, 0), (1L << 8 * n) - 1);
            rest[n] = 0;
            Checks.readBlock(y, 9, rest);
            c.due("the last of " + n + " bytes is the lowest", y.number(0, 1, 0), (1L << 8 * n) - 256);
        }
    }

    private static void numberNone() {
        c.sentence("NONE: there is none, or it is GOING.");
        ReportBlocks x = twoRecords();
        for (int i : new int[] {0, 1, -1, LEAST, MOST}) {
            c.due("a GOING one, i " + i, x.number(0, 2, i), NONE);
            c.due("a GOING one of the second, i " + i, x.number(1, 2, i), NONE);
            c.due("none in the table, i " + i, x.number(0, 5, i), NONE);
            c.due("a FIXED one it has not, i " + i, x.number(1, 1, i), NONE);
            c.due("an AGAIN one it has not, i " + i, x.number(1, 3, i), NONE);
            c.due("a MADE one it has not, i " + i, x.number(1, 4, i), NONE);
        }
    }

    private static void numberBad() {
        c.sentence("NONE: there is none, or it is GOING. BAD: RECORD, PLACE.");
        ReportBlocks x = new ReportBlocks();
        c.due("no record", x.number(0, 1, 0), BAD);
        x = twoRecords();
        int[][] bad = {{2, 1, 0}, {8, 1, 0}, {-1, 1, 0}, {LEAST, 1, 0}, {MOST, 1, 0}, {0, 0, 0}, {0, 22, 0},
            {0, -1, 1}, {0, LEAST, 0}, {0, MOST, 1}, {2, 1, 300}, {0, 22, -1}, {2, 2, 0}};
        for (int[] b : bad) {
            c.due(Arrays.toString(b), x.number(b[0], b[1], b[2]), BAD);
        }
    }
}
