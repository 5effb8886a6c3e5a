import java.util.Arrays;

/** Each sentence of promises 15 to 20 that names a boundary. */
public final class EdgesOfWritingTest {
    private static final int BAD = ReportBlocks.BAD, STATE = ReportBlocks.STATE;
    private static final int FULL = ReportBlocks.FULL, NONE = ReportBlocks.NONE;
    private static final int LEAST = Integer.MIN_VALUE, MOST = Integer.MAX_VALUE;
    private static final int[] NO_PLACES = {0, 22, -1, 23, LEAST, MOST};
    private static final Checks c = new Checks("EdgesOfWritingTest");

    public static void main(String[] args) {
        begunWithoutItems();
        forgotten();
        beginBad();
        set();
        setAtNoPlace();
        setWhatIsNotJustOne();
        setStays();
        setWithNoneBegun();
        take();
        takeWhatIsNotThere();
        takeWithNoneBegun();
        writeAlone();
        writeToTheEnd();
        writeWithNoneBegun();
        writeWithNoItem();
        writeFull();
        copyToTheEnd();
        copyWithout();
        copyBitsBeyond();
        copyNoneLeft();
        copyFull();
        tape();
        tapeNone();
        c.finish();
    }

    /** Category 9: 1 FIXED 1, 2 FIXED 8, 3 GOING, 4 AGAIN 3, 5 MADE (parts 0, 7: 2 bytes), 21 AGAIN 1. */
    private static ReportBlocks some() {
        ReportBlocks x = new ReportBlocks();
        x.category(9);
        x.item(0, 1, 0, 1);
        x.item(0, 2, 0, 8);
        x.item(0, 3, 1, 0);
        x.item(0, 4, 2, 3);
        x.item(0, 5, 3, 0);
        x.part(0, 5, 0, 2);
        x.part(0, 5, 7, 2);
        x.item(0, 21, 2, 1);
        return x;
    }

    private static ReportBlocks begun() {
        ReportBlocks x = some();
        x.begin(0);
        return x;
    }

    private static int setTo(ReportBlocks x, int place, int... bytes) {
        x.tear();
        Checks.feed(x, bytes);
        return x.set(place);
    }

    private static void begunWithoutItems() {
        c.sentence("A RECORD of one's own is begun for a CATEGORY, without ITEMS: 1");
        ReportBlocks x = some();
        c.due("begin()", x.begin(0), 1);
        for (int place = 1; place <= 21; place++) {
            c.due("no item at " + place, x.take(place), BAD);
        }
        c.due("none to write", x.write(), STATE);
        c.due("the tape stays empty", x.count(5), 0);
        c.due("no record of a block", x.records(0), 0);
        c.due("its item is set", setTo(x, 1, 7), 1);
        c.due("it is written", x.write(), 5);
    }

    private static void forgotten() {
        c.sentence("(one that was begun is forgotten)");
        ReportBlocks x = begun();
        x.category(10);
        x.item(1, 1, 0, 1);
        setTo(x, 1, 7);
        setTo(x, 21, 1, 9);
        c.due("begin() anew", x.begin(0), 1);
        c.due("it has no item", x.write(), STATE);
        c.due("not the first", x.take(1), BAD);
        c.due("not the last", x.take(21), BAD);
        setTo(x, 1, 7);
        c.due("begin() for another", x.begin(1), 1);
        c.due("it has no item", x.write(), STATE);
        setTo(x, 1, 8);
        x.write();
        c.tapeIs("of the other", x, 10, 0, 5, 0x80, 8);
        c.due("of the first, where the other has none", setTo(x, 3, 0), BAD);
    }

    private static void beginBad() {
        c.sentence("(one that was begun is forgotten). BAD.");
        c.due("no category", new ReportBlocks().begin(0), BAD);
        ReportBlocks x = begun();
        setTo(x, 1, 7);
        for (int category : new int[] {1, 2, 3, -1, LEAST, MOST}) {
            c.due("begin(" + category + ")", x.begin(category), BAD);
        }
        x.write();
        c.tapeIs("the one begun is not forgotten", x, 9, 0, 5, 0x80, 7);
        ReportBlocks y = some();
        c.due("of no category", y.begin(1), BAD);
        c.due("none is begun", y.write(), STATE);
        c.due("none is begun for an item", y.item(0, 1, 0, 1), 0);
    }

    private static void set() {
        c.sentence("THE TAPE's bytes become the ITEM at a PLACE of the RECORD that is begun, and are gone: how many.");
        ReportBlocks x = begun();
        int[][] items = {{1, 200}, {2, 1, 2, 3, 4, 5, 6, 7, 8}, {3, 0}, {3, 1, 1, 1, 1, 1, 0}, {4, 1, 1, 2, 3},
            {4, 5, 1, 2, 3, 4, 5, 6, 7, 8, 9, 10, 11, 12, 13, 14, 15}, {5, 0x80, 1, 2}, {5, 1, 0x80, 3, 4},
            {5, 0x81, 0x80, 5, 6, 7, 8}, {21, 1, 255}};
        for (int[] item : items) {
            int[] bytes = Arrays.copyOfRange(item, 1, item.length);
            c.due("set(" + item[0] + ")", setTo(x, item[0], bytes), bytes.length);
            c.tapeIs("they are gone", x);
        }
        c.due("all of it", x.write(), 3 + 3 + 1 + 8 + 6 + 16 + 6 + 2);
        c.due("the latest GOING one", x.tape(15), 1);
        c.due("the latest AGAIN one", x.tape(21), 5);
        c.due("the latest MADE one", x.tape(37), 0x81);
        c.due("an item anew", setTo(x, 3, 4), 1);
        c.due("in its stead", x.write(), 3 + 3 + 1 + 8 + 1 + 16 + 6 + 2);
        c.due("the new one", x.tape(15), 4);
        setTheLongest();
    }

    private static void setTheLongest() {
        ReportBlocks x = new ReportBlocks();
        x.category(9);
        x.item(0, 21, 3, 0);
        for (int part = 0; part < 14; part++) {
            x.part(0, 21, part, 4);
        }
        x.begin(0);
        int[] item = new int[58];
        item[0] = 255;
        item[1] = 254;
        item[57] = 99;
        c.due("one byte less", setTo(x, 21, Arrays.copyOf(item, 57)), BAD);
        c.due("the longest of all", setTo(x, 21, item), 58);
        c.due("its block", x.write(), 6 + 58);
        c.due("its last byte", x.tape(63), 99);
        c.due("read()", x.read(), 1);
        c.due("its last part", x.number(0, 21, 13), 99);
    }

    private static void setAtNoPlace() {
        c.sentence("BAD: no such PLACE");
        ReportBlocks x = begun();
        x.feed(7, 1);
        for (int place : NO_PLACES) {
            c.due("set(" + place + ")", x.set(place), BAD);
        }
        c.due("no item there", x.set(6), BAD);
        c.due("nor there", x.set(20), BAD);
        c.tapeIs("they stay", x, 7);
        c.due("nothing is set", x.write(), STATE);
        ReportBlocks y = some();
        c.due("no place, none begun", y.set(0), BAD);
        c.due("no place, none begun", y.set(22), BAD);
    }

    private static void setWhatIsNotJustOne() {
        c.sentence("or they are not just one such ITEM");
        ReportBlocks x = begun();
        int[][] bad = {{1}, {1, 1, 2}, {2}, {2, 1, 2, 3, 4, 5, 6, 7}, {2, 1, 2, 3, 4, 5, 6, 7, 8, 9}, {3}, {3, 1},
            {3, 0, 0}, {3, 1, 1, 1, 1, 1}, {3, 1, 1, 1, 1, 1, 1}, {3, 1, 1, 1, 1, 1, 1, 0}, {4}, {4, 0}, {4, 1},
            {4, 1, 1, 2}, {4, 1, 1, 2, 3, 4}, {4, 0, 1, 2, 3}, {4, 6, 1, 2, 3, 1, 2, 3, 1, 2, 3, 1, 2, 3, 1, 2, 3, 1, 2, 3},
            {5}, {5, 0}, {5, 0x80}, {5, 0x80, 1}, {5, 0x80, 1, 2, 3}, {5, 1}, {5, 1, 0}, {5, 0x81, 0, 1, 2},
            {5, 0x81, 0x81, 1, 2, 3, 4}, {5, 0x40, 1, 2}, {5, 0xC0, 1, 2}, {5, 1, 0x40, 1, 2}, {21, 1}, {21, 5, 1, 2, 3, 4}};
        for (int[] b : bad) {
            int[] bytes = Arrays.copyOfRange(b, 1, b.length);
            c.due("set(" + b[0] + ") " + Arrays.toString(bytes), setTo(x, b[0], bytes), BAD);
        }
        c.due("nothing is set", x.write(), STATE);
        setTo(x, 3, 1, 0);
        c.due("a longer one", setTo(x, 3, 1, 1, 0, 0), BAD);
        c.due("a shorter one", setTo(x, 3, 1), BAD);
        x.tear();
        x.write();
        c.tapeIs("the one before stays", x, 9, 0, 6, 0x20, 1, 0);
    }

    private static void setStays() {
        c.sentence("(they stay)");
        ReportBlocks x = begun();
        c.due("one byte too many", setTo(x, 3, 1, 0, 5), BAD);
        c.tapeIs("they stay", x, 1, 0, 5);
        c.due("too few", x.set(2), BAD);
        c.due("r 1, 2 bytes", x.set(4), BAD);
        c.tapeIs("they stay still", x, 1, 0, 5);
        x.feed(6, 1);
        c.due("now they are one", x.set(4), 4);
        c.tapeIs("they are gone", x);
        Checks.feed(x, new int[300]);
        for (int place : new int[] {1, 2, 3, 4, 5, 6, 21}) {
            c.due("a full tape at " + place, x.set(place), BAD);
        }
        c.due("all stay", x.count(5), 300);
    }

    private static void setWithNoneBegun() {
        c.sentence("(they stay); STATE: none is begun.");
        ReportBlocks x = some();
        x.feed(7, 1);
        c.due("none is begun", x.set(1), STATE);
        c.due("begin() that is refused", x.begin(1), BAD);
        c.due("none is begun still", x.set(1), STATE);
        c.tapeIs("they stay", x, 7);
        c.due("a block read", Checks.readBlock(x, 9, 0x80, 1), 1);
        x.feed(7, 1);
        c.due("is none begun", x.set(1), STATE);
        x.begin(0);
        c.due("one is begun", x.set(1), 1);
    }

    private static void take() {
        c.sentence("The ITEM at a PLACE of it is taken out: how many bytes it had.");
        ReportBlocks x = begun();
        setTo(x, 1, 7);
        setTo(x, 2, 1, 2, 3, 4, 5, 6, 7, 8);
        setTo(x, 4, 5, 1, 2, 3, 4, 5, 6, 7, 8, 9, 10, 11, 12, 13, 14, 15);
        setTo(x, 21, 1, 9);
        c.due("of 8 bytes", x.take(2), 8);
        c.due("of 16 bytes", x.take(4), 16);
        c.due("of 1 byte", x.take(1), 1);
        c.due("the tape has none of them", x.count(5), 0);
        x.write();
        c.tapeIs("what is left", x, 9, 0, 8, 1, 1, 2, 1, 9);
        c.due("the last", x.take(21), 2);
        c.due("none is left", x.write(), STATE);
        c.due("it is begun still", setTo(x, 1, 7), 1);
    }

    private static void takeWhatIsNotThere() {
        c.sentence("BAD: it has none");
        ReportBlocks x = begun();
        setTo(x, 1, 7);
        for (int place : NO_PLACES) {
            c.due("take(" + place + ")", x.take(place), BAD);
        }
        c.due("one that is not set", x.take(2), BAD);
        c.due("one that is not in the table", x.take(6), BAD);
        c.due("one that is set", x.take(1), 1);
        c.due("one that was taken", x.take(1), BAD);
    }

    private static void takeWithNoneBegun() {
        c.sentence("BAD: it has none; STATE.");
        ReportBlocks x = some();
        c.due("none is begun", x.take(1), STATE);
        c.due("none is begun, the last place", x.take(21), STATE);
        c.due("none is begun, place 0", x.take(0), BAD);
        c.due("none is begun, place 22", x.take(22), BAD);
        Checks.readBlock(x, 9, 0x80, 1);
        c.due("a block read is none begun", x.take(1), STATE);
        c.due("its item stays", x.has(0, 1, 0), 1);
    }

    private static void writeAlone() {
        c.sentence("A BLOCK of it, alone, comes to THE TAPE's end");
        ReportBlocks x = begun();
        Checks.readBlock(x, 9, 0x80, 1, 0x80, 2);
        setTo(x, 3, 4);
        c.due("write()", x.write(), 5);
        c.tapeIs("it alone", x, 9, 0, 5, 0x20, 4);
        c.due("read()", x.read(), 1);
        c.due("its item", x.number(0, 1, 0), NONE);
        c.due("its bytes", x.at(0, 3, 0), 4);
        c.due("it is begun still", x.write(), 5);
    }

    private static void writeToTheEnd() {
        c.sentence("comes to THE TAPE's end: how many bytes.");
        ReportBlocks x = begun();
        setTo(x, 21, 1, 9);
        x.feed(0x0908, 2);
        c.due("the first", x.write(), 8);
        c.due("take()", x.take(21), 2);
        c.due("set() of what is there", x.set(1), BAD);
        c.tapeIs("behind what was there", x, 9, 8, 9, 0, 8, 1, 1, 2, 1, 9);
        setTo(x, 1, 5);
        c.due("one", x.write(), 5);
        c.due("and again", x.write(), 5);
        c.tapeIs("one behind the other", x, 9, 0, 5, 0x80, 5, 9, 0, 5, 0x80, 5);
        longBlock();
    }

    private static void longBlock() {
        ReportBlocks x = new ReportBlocks();
        x.category(9);
        for (int place = 1; place <= 13; place++) {
            x.item(0, place, 2, 4);
        }
        x.item(0, 14, 0, 8);
        x.item(0, 15, 0, 6);
        x.begin(0);
        int[] item = new int[21];
        item[0] = 5;
        for (int place = 1; place <= 13; place++) {
            item[20] = place;
            c.due("set(" + place + ")", setTo(x, place, item), 21);
        }
        c.due("of 278 bytes", x.write(), 3 + 2 + 13 * 21);
        c.due("higher", x.tape(1), 1);
        c.due("lower", x.tape(2), 278 - 256);
        c.due("the last", x.tape(277), 13);
        setTo(x, 14, 1, 2, 3, 4, 5, 6, 7, 8);
        c.due("of 286 bytes", x.write(), 286);
        c.due("read()", x.read(), 1);
        c.due("the last item", x.number(0, 14, 0), 0x0102030405060708L);
        setTo(x, 15, 1, 2, 3, 4, 5, 6);
        c.due("of 293 bytes", x.write(), 293);
        c.due("the last", x.tape(292), 6);
    }

    private static void writeWithNoneBegun() {
        c.sentence("STATE: none is begun");
        ReportBlocks x = some();
        c.due("none is begun", x.write(), STATE);
        Checks.readBlock(x, 9, 0x80, 1);
        c.due("a block read is none begun", x.write(), STATE);
        c.due("the tape stays empty", x.count(5), 0);
        Checks.feed(x, new int[300]);
        c.due("full, none begun", x.write(), STATE);
    }

    private static void writeWithNoItem() {
        c.sentence("or it has no ITEM");
        ReportBlocks x = begun();
        c.due("no item", x.write(), STATE);
        setTo(x, 1, 7);
        c.due("one item", x.write(), 5);
        x.take(1);
        c.due("taken out", x.write(), STATE);
        c.due("the tape as it was", x.count(5), 5);
        Checks.feed(x, new int[295]);
        c.due("full, no item", x.write(), STATE);
    }

    private static void writeFull() {
        c.sentence("or it has no ITEM; FULL.");
        ReportBlocks x = begun();
        setTo(x, 1, 7);
        Checks.feed(x, new int[296]);
        c.due("one byte short", x.write(), FULL);
        c.due("nothing came", x.count(5), 296);
        x.tear();
        Checks.feed(x, new int[295]);
        c.due("just enough", x.write(), 5);
        c.due("it is full", x.count(5), 300);
        c.due("the last", x.tape(299), 7);
        c.due("no more", x.write(), FULL);
        c.due("it is as it was", x.count(5), 300);
        longerThanTheTape();
    }

    private static void longerThanTheTape() {
        ReportBlocks x = new ReportBlocks();
        x.category(9);
        for (int place = 1; place <= 14; place++) {
            x.item(0, place, 2, 4);
        }
        x.item(0, 15, 0, 1);
        x.begin(0);
        int[] item = new int[21];
        item[0] = 5;
        for (int place = 1; place <= 14; place++) {
            setTo(x, place, item);
        }
        c.due("of 299 bytes", x.write(), 299);
        setTo(x, 15, 1);
        c.due("of 301 bytes", x.write(), FULL);
        c.due("nothing came", x.count(5), 0);
        x.take(14);
        setTo(x, 14, 1, 2, 3, 4, 5);
        c.due("of 285 bytes", x.write(), 285);
    }

    private static void copyToTheEnd() {
        c.sentence("The BLOCK of the RECORDS that were read comes to THE TAPE's end");
        ReportBlocks x = some();
        int[] block = Checks.block(9, 0xC0, 1, 1, 2, 3, 4, 5, 6, 7, 8, 0x20, 1, 0, 1, 1, 2, 1, 9, 0x08, 0x80, 1, 2);
        Checks.feed(x, block);
        x.read();
        c.due("copy(0)", x.copy(0), block.length);
        c.tapeIs("copy(0)", x, block);
        x.tear();
        x.feed(0x0304, 2);
        c.due("copy(0)", x.copy(0), block.length);
        c.due("what was there", x.tape(1), 4);
        c.due("behind it", x.tape(2), 9);
        c.due("the last", x.tape(block.length + 1), 2);
        c.due("how many", x.count(5), block.length + 2);
        c.due("the records stay", x.records(0), 4);
    }

    private static void copyWithout() {
        c.sentence("but without those of a set (bits, RECORD 0 the lowest): how many bytes.");
        ReportBlocks x = some();
        int[] eight = new int[16];
        for (int i = 0; i < 16; i += 2) {
            eight[i] = 0x80;
            eight[i + 1] = i / 2;
        }
        Checks.readBlock(x, 9, eight);
        for (int record = 0; record < 8; record++) {
            c.due("without all but " + record, x.copy(255 - (1 << record)), 5);
            c.tapeIs("without all but " + record, x, 9, 0, 5, 0x80, record);
            x.tear();
        }
        c.due("without the first", x.copy(1), 17);
        c.due("the second is the first then", x.tape(4), 1);
        x.tear();
        c.due("without the last", x.copy(128), 17);
        c.due("the first", x.tape(4), 0);
        c.due("the last", x.tape(16), 6);
        x.tear();
        c.due("without some", x.copy(0x66), 11);
        c.tapeIs("without some", x, 9, 0, 11, 0x80, 0, 0x80, 3, 0x80, 4, 0x80, 7);
    }

    private static void copyBitsBeyond() {
        c.sentence("BAD: bits beyond");
        ReportBlocks x = some();
        for (int without : new int[] {1, 128, 256, -1, LEAST, MOST}) {
            c.due("no records, copy(" + without + ")", x.copy(without), BAD);
        }
        int[] rest = new int[16];
        for (int n = 1; n <= 8; n++) {
            rest[2 * n - 2] = 0x80;
            Checks.readBlock(x, 9, Arrays.copyOf(rest, 2 * n));
            c.due("beyond " + n, x.copy(1 << n), BAD);
            c.due("beyond and all of " + n, x.copy((2 << n) - 1), BAD);
            c.due("far beyond " + n, x.copy(1 << 30), BAD);
            c.due("the sign beyond " + n, x.copy(LEAST), BAD);
            c.due("all beyond " + n, x.copy(-1), BAD);
            c.due("nothing came of " + n, x.count(5), 0);
            c.due("within " + n, x.copy((1 << n) - 1), STATE);
        }
    }

    private static void copyNoneLeft() {
        c.sentence("STATE: none would be left");
        ReportBlocks x = some();
        c.due("no records", x.copy(0), STATE);
        Checks.readBlock(x, 9, 0x80, 1);
        c.due("one", x.copy(1), STATE);
        Checks.readBlock(x, 9, 0x80, 1, 0x80, 2);
        c.due("two", x.copy(3), STATE);
        c.due("nothing came", x.count(5), 0);
        Checks.feed(x, new int[300]);
        c.due("two, full", x.copy(3), STATE);
        x.tear();
        c.due("one of two", x.copy(2), 5);
    }

    private static void copyFull() {
        c.sentence("STATE: none would be left; FULL.");
        ReportBlocks x = some();
        Checks.readBlock(x, 9, 0x80, 1, 0x80, 2);
        Checks.feed(x, new int[294]);
        c.due("one byte short", x.copy(0), FULL);
        c.due("nothing came", x.count(5), 294);
        c.due("a shorter one", x.copy(1), 5);
        c.due("no more", x.copy(1), FULL);
        c.due("nothing more came", x.count(5), 299);
        x.tear();
        Checks.feed(x, new int[293]);
        c.due("just enough", x.copy(0), 7);
        c.due("it is full", x.count(5), 300);
        c.due("the last", x.tape(299), 2);
        c.due("bits beyond, full", x.copy(4), BAD);
    }

    private static void tape() {
        c.sentence("Byte i of THE TAPE");
        ReportBlocks x = new ReportBlocks();
        int[] bytes = new int[300];
        for (int i = 0; i < 300; i++) {
            bytes[i] = (i * 7 + 128) & 255;
        }
        Checks.feed(x, bytes);
        c.tapeIs("full", x, bytes);
    }

    private static void tapeNone() {
        c.sentence("Byte i of THE TAPE; NONE.");
        ReportBlocks x = some();
        for (int i : new int[] {0, 1, 299, 300, -1, LEAST, MOST}) {
            c.due("empty: tape(" + i + ")", x.tape(i), NONE);
        }
        Checks.feed(x, 9, 0, 5, 0x80, 1, 77, 78);
        for (int i : new int[] {7, 8, 299, 300, -1, LEAST, MOST}) {
            c.due("seven: tape(" + i + ")", x.tape(i), NONE);
        }
        x.read();
        c.due("the first of two", x.tape(0), 77);
        c.due("behind two", x.tape(2), NONE);
        x.tear();
        c.due("none any more", x.tape(0), NONE);
        Checks.feed(x, new int[300]);
        c.due("full, the last", x.tape(299), 0);
        c.due("full, behind it", x.tape(300), NONE);
        c.due("full, ahead of it", x.tape(-1), NONE);
    }
}
