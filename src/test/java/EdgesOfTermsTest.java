import java.util.Arrays;

/** Each sentence of 'Terms' 1 and 2 that names a boundary, but those about faults. */
public final class EdgesOfTermsTest {
    private static final int BAD = ReportBlocks.BAD, STATE = ReportBlocks.STATE;
    private static final int FULL = ReportBlocks.FULL, NONE = ReportBlocks.NONE;
    private static final int LEAST = Integer.MIN_VALUE, MOST = Integer.MAX_VALUE;
    private static final Checks c = new Checks("EdgesOfTermsTest");

    public static void main(String[] args) {
        calls();
        categories();
        numbersOfCategories();
        places();
        fixed();
        going();
        again();
        made();
        partsByBits();
        parts();
        tape();
        block();
        toItsEnd();
        bitsOfARecord();
        placesByBits();
        oneBitAtLeast();
        oneBitOfAMadeOneAtLeast();
        readLatest();
        eightAtMost();
        written();
        fewBits();
        c.finish();
    }

    private static int[] join(int[] first, int... second) {
        int[] all = Arrays.copyOf(first, first.length + second.length);
        System.arraycopy(second, 0, all, first.length, second.length);
        return all;
    }

    /** A category of one item alone, at place 1. */
    private static ReportBlocks of(int kind, int n) {
        ReportBlocks x = new ReportBlocks();
        x.category(9);
        x.item(0, 1, kind, n);
        return x;
    }

    /** A category with an item of one byte at each of these places. */
    private static ReportBlocks bytesAt(int... places) {
        ReportBlocks x = new ReportBlocks();
        x.category(9);
        for (int place : places) {
            x.item(0, place, 0, 1);
        }
        return x;
    }

    private static int[] one(int bits, int... item) {
        return join(new int[] {bits}, item);
    }

    private static void faultIs(String when, ReportBlocks x, int answer, int fault, int place) {
        c.due(when + ": read()", answer, -100 - place);
        c.due(when + ": fault()", x.fault(), fault);
    }

    private static void calls() {
        c.sentence("An object is used for at most 512 calls after it has been made");
        ReportBlocks x = bytesAt(1);
        for (int i = 0; i < 169; i++) {
            c.due("feed", x.feed(0x09000580L << 8 | i, 5), 5);
            c.due("read", x.read(), 1);
            c.due("number", x.number(0, 1, 0), i);
        }
        c.due("call 510", x.tick(20), 0);
        c.due("call 511", x.count(4), 20);
        c.due("call 512", x.count(6), 169);
    }

    private static void categories() {
        c.sentence("CATEGORIES (3 at most");
        ReportBlocks x = new ReportBlocks();
        c.due("a first", x.category(5), 0);
        c.due("a second", x.category(6), 1);
        c.due("a third", x.category(7), 2);
        c.due("a fourth", x.category(8), FULL);
        c.due("how many", x.count(0), 3);
        x.item(2, 1, 0, 1);
        c.due("of the third", Checks.readBlock(x, 7, 0x80, 1), 1);
        faultIs("of the fourth", x, Checks.readBlock(x, 8, 0x80, 1), 1, 0);
        c.due("the third's place", x.records(1), 2);
    }

    private static void numbersOfCategories() {
        c.sentence("each with a number 1 .. 255");
        ReportBlocks x = new ReportBlocks();
        for (int number : new int[] {0, -1, 256, 257, LEAST, MOST, -255}) {
            c.due("category(" + number + ")", x.category(number), BAD);
        }
        c.due("none came", x.count(0), 0);
        c.due("category(1)", x.category(1), 0);
        c.due("category(255)", x.category(255), 1);
        x.item(0, 1, 0, 1);
        x.item(1, 1, 0, 1);
        c.due("of 1", Checks.readBlock(x, 1, 0x80, 7), 1);
        c.due("it is the first", x.records(1), 0);
        c.due("of 255", Checks.readBlock(x, 255, 0x80, 7), 1);
        c.due("it is the second", x.records(1), 1);
        x.copy(0);
        c.tapeIs("of 255", x, 255, 0, 5, 0x80, 7);
    }

    private static void places() {
        c.sentence("have a TABLE of 21 PLACES, 1 .. 21; at each there is an ITEM, or none");
        ReportBlocks x = bytesAt(1, 21);
        for (int place : new int[] {0, -1, 22, 23, LEAST, MOST}) {
            c.due("item at " + place, x.item(0, place, 0, 1), BAD);
            c.due("table of " + place, x.table(0, place, 0), BAD);
        }
        for (int place = 1; place <= 21; place++) {
            boolean isThere = place == 1 || place == 21;
            c.due("kind at " + place, x.table(0, place, 0), isThere ? 0 : NONE);
        }
        c.due("the last place is read", Checks.readBlock(x, 9, 1, 1, 2, 77), 1);
        c.due("the last place", x.number(0, 21, 0), 77);
        c.due("the first place is read", Checks.readBlock(x, 9, 0x80, 78), 1);
        c.due("the first place", x.number(0, 1, 0), 78);
    }

    private static void fixed() {
        c.sentence("0 FIXED: n bytes (1 .. 8).");
        ReportBlocks x = of(-1, 0);
        for (int n : new int[] {0, 9, -1, LEAST, MOST, 256 + 1}) {
            c.due("item of " + n, x.item(0, 1, 0, n), BAD);
        }
        c.due("there is none", x.table(0, 1, 0), NONE);
        int[] bytes = {1, 2, 3, 4, 5, 6, 7, 8};
        for (int n = 1; n <= 8; n++) {
            ReportBlocks y = of(0, n);
            int[] item = Arrays.copyOf(bytes, n);
            c.due("read of " + n, Checks.readBlock(y, 9, one(0x80, item)), 1);
            c.due("bytes of " + n, y.has(0, 1, 0), n);
            faultIs("one less than " + n, y, Checks.readBlock(y, 9, one(0x80, Arrays.copyOf(bytes, n - 1))), 3, 3 + n);
        }
    }

    private static void going() {
        c.sentence("1 GOING: 1 .. 6 bytes; each but the last has its lowest bit 1, the last one 0 (a sixth has 0).");
        ReportBlocks x = of(1, 0);
        int[] bytes = {0xFF, 1, 0x81, 3, 0x55, 1};
        for (int n = 1; n <= 6; n++) {
            int[] item = Arrays.copyOf(bytes, n);
            item[n - 1] = 0xFE;
            c.due("read of " + n, Checks.readBlock(x, 9, one(0x80, item)), 1);
            c.due("bytes of " + n, x.has(0, 1, 0), n);
            c.due("the last of " + n, x.at(0, 1, n - 1), 0xFE);
            c.due("read of two of " + n, Checks.readBlock(x, 9, join(one(0x80, item), one(0x80, item))), 2);
        }
        c.due("a single 0", Checks.readBlock(x, 9, 0x80, 0), 1);
        c.due("its bytes", x.has(0, 1, 0), 1);
        faultIs("a sixth has 1", x, Checks.readBlock(x, 9, one(0x80, join(bytes, 0))), 7, 9);
    }

    private static void again() {
        c.sentence("2 AGAIN: a byte r (1 .. 5), then r times n bytes (n 1 .. 4).");
        ReportBlocks x = of(-1, 0);
        for (int n : new int[] {0, 5, -1, LEAST, MOST, 8}) {
            c.due("item of " + n, x.item(0, 1, 2, n), BAD);
        }
        c.due("there is none", x.table(0, 1, 0), NONE);
        for (int n = 1; n <= 4; n++) {
            ReportBlocks y = of(2, n);
            for (int r = 1; r <= 5; r++) {
                int[] item = new int[1 + r * n];
                item[0] = r;
                item[r * n] = 200;
                c.due(r + " times " + n, Checks.readBlock(y, 9, one(0x80, item)), 1);
                c.due("bytes of " + r + " times " + n, y.has(0, 1, 0), 1 + r * n);
                c.due("the last of " + r + " times " + n, y.number(0, 1, r - 1), 200);
                c.due("behind " + r + " times " + n, y.number(0, 1, r), NONE);
                int[] less = Arrays.copyOf(item, r * n);
                faultIs("one less", y, Checks.readBlock(y, 9, one(0x80, less)), 3, 4 + r * n);
            }
            faultIs("r 0", y, Checks.readBlock(y, 9, 0x80, 0, 0, 0, 0, 0), 6, 4);
            faultIs("r 6", y, Checks.readBlock(y, 9, one(0x80, join(new int[] {6}, new int[24]))), 6, 4);
        }
    }

    private static void made() {
        c.sentence("1 or 2 bytes of BITS, GOING as KIND 1 (the lowest bit of the first tells whether there is a second;"
            + " of the second it is 0)");
        ReportBlocks x = of(3, 0);
        x.part(0, 1, 0, 1);
        x.part(0, 1, 7, 1);
        x.item(0, 2, 3, 0);
        x.part(0, 2, 0, 1);
        c.due("two bytes of bits, and no third", Checks.readBlock(x, 9, 0x80, 0x81, 0x80, 0x80, 0x80), 1);
        c.due("one byte of bits, and no second", Checks.readBlock(x, 9, 0x80, 0x80, 0x80), 1);
        c.due("its bytes", x.has(0, 1, 0), 2);
        c.due("part 7", x.number(0, 1, 7), NONE);
        c.due("one byte of bits", Checks.readBlock(x, 9, 0x80, 0x80, 5), 1);
        c.due("part 0", x.number(0, 1, 0), 5);
        c.due("part 7", x.number(0, 1, 7), NONE);
        c.due("two bytes of bits", Checks.readBlock(x, 9, 0x80, 0x81, 0x80, 5, 6), 1);
        c.due("its bytes", x.has(0, 1, 0), 4);
        c.due("part 0", x.number(0, 1, 0), 5);
        c.due("part 7", x.number(0, 1, 7), 6);
        faultIs("the second has 1", x, Checks.readBlock(x, 9, 0x80, 0x81, 0x81, 5, 6), 4, 5);
        faultIs("there is no second", x, Checks.readBlock(x, 9, 0x80, 0x81), 3, 5);
    }

    private static void partsByBits() {
        c.sentence("then for each bit that is 1, from the highest on but without those lowest ones, a PART");
        ReportBlocks x = of(3, 0);
        for (int part = 0; part < 14; part++) {
            x.part(0, 1, part, 1);
        }
        int[] item = {0xFF, 0xFE, 0, 1, 2, 3, 4, 5, 6, 7, 8, 9, 10, 11, 12, 13};
        c.due("all parts", Checks.readBlock(x, 9, one(0x80, item)), 1);
        for (int part = 0; part < 14; part++) {
            c.due("of all, part " + part, x.number(0, 1, part), part);
        }
        for (int part = 0; part < 14; part++) {
            int bit = 0x80 >> part % 7;
            int[] alone = part < 7 ? one(bit, 60 + part) : one(1, bit, 60 + part);
            c.due("part alone " + part, Checks.readBlock(x, 9, one(0x80, alone)), 1);
            c.due("alone, it", x.number(0, 1, part), 60 + part);
            c.due("alone, the next", x.number(0, 1, (part + 1) % 14), NONE);
            c.due("alone, the one ahead", x.number(0, 1, (part + 13) % 14), NONE);
            c.due("alone, bytes", x.has(0, 1, 0), alone.length);
        }
    }

    private static void parts() {
        c.sentence("PARTS (14, by these bits) are FIXED, of 1 .. 4 bytes, or none.");
        ReportBlocks x = of(3, 0);
        for (int part : new int[] {-1, 14, 15, LEAST, MOST}) {
            c.due("part " + part, x.part(0, 1, part, 1), BAD);
        }
        for (int n : new int[] {-1, 5, 8, LEAST, MOST}) {
            c.due("part of " + n, x.part(0, 1, 0, n), BAD);
        }
        c.due("no part came", x.table(0, 1, 2), 0);
        c.due("part 0 of 1", x.part(0, 1, 0, 1), 0);
        c.due("part 13 of 4", x.part(0, 1, 13, 4), 0);
        c.due("they are read", Checks.readBlock(x, 9, 0x80, 0x81, 2, 9, 1, 2, 3, 4), 1);
        c.due("part 0", x.number(0, 1, 0), 9);
        c.due("part 13", x.number(0, 1, 13), 0x01020304);
        faultIs("one byte less", x, Checks.readBlock(x, 9, 0x80, 0x81, 2, 9, 1, 2, 3), 3, 10);
        faultIs("one that is none", x, Checks.readBlock(x, 9, 0x80, 0xC0, 9), 5, 4);
    }

    private static void tape() {
        c.sentence("THE TAPE has at most 300 bytes.");
        ReportBlocks x = bytesAt(1);
        c.due("299", Checks.feed(x, new int[299]), 299);
        c.due("two more", x.feed(1, 2), FULL);
        c.due("one more", x.feed(1, 1), 300);
        c.due("and one more", x.feed(1, 1), FULL);
        c.due("how many", x.count(5), 300);
        c.due("the last", x.tape(299), 1);
        c.due("behind it", x.tape(300), NONE);
    }

    private static void block() {
        c.sentence("A BLOCK: a byte, the CATEGORY's number; two bytes (the higher first), how many bytes it has in all");
        ReportBlocks x = new ReportBlocks();
        x.category(9);
        for (int place = 1; place <= 14; place++) {
            x.item(0, place, 0, 8);
        }
        x.item(0, 15, 0, 4);
        x.item(0, 16, 0, 2);
        x.item(0, 17, 0, 1);
        x.item(0, 21, 0, 1);
        c.due("the shortest", Checks.readBlock(x, 9, 1, 1, 2, 1), 1);
        for (int n : new int[] {255, 256, 257, 300}) {
            int[] rest = join(join(record(114), record(114)), record(n - 231));
            c.due("of " + n, Checks.readBlock(x, 9, rest), 3);
            c.due("nothing is left of " + n, x.count(5), 0);
            c.due("copied " + n, x.copy(0), n);
            c.due("the number of " + n, x.tape(0), 9);
            c.due("higher of " + n, x.tape(1), n >> 8);
            c.due("lower of " + n, x.tape(2), n & 255);
            c.due("the last of " + n, x.tape(n - 1), rest[n - 4]);
        }
        x.tear();
        Checks.feed(x, join(new int[] {9, 5, 0}, record(114)));
        faultIs("the lower first", x, x.read(), 2, 1);
    }

    // A record of so many bytes: of items of 8 bytes as many as go in, then of 4, 2 and 1.
    private static int[] record(int n) {
        int[] all = new int[n];
        int rest = n - 3;
        int eights = (1 << rest / 8) - 1 << 14 - rest / 8;
        all[0] = eights >> 7 << 1 | 1;
        all[1] = (eights & 0x7F) << 1 | 1;
        all[2] = rest % 8 << 5;
        Arrays.fill(all, 3, n, n & 0x7F);
        return all;
    }

    private static void toItsEnd() {
        c.sentence("RECORDS, one or more, to its end.");
        ReportBlocks x = bytesAt(1, 2);
        faultIs("none", x, Checks.readBlock(x, 9), 2, 1);
        faultIs("a byte that is none", x, Checks.readBlock(x, 9, 0), 4, 3);
        c.due("one", Checks.readBlock(x, 9, 0xC0, 1, 2), 1);
        c.due("two", Checks.readBlock(x, 9, 0xC0, 1, 2, 0x80, 3), 2);
        x.tear();
        Checks.feed(x, 9, 0, 7, 0x80, 1, 0x40, 2, 0x80, 3);
        c.due("not those behind its end", x.read(), 2);
        c.due("which stay", x.count(5), 2);
        c.due("the first of which", x.tape(0), 0x80);
        x.tear();
        Checks.feed(x, 9, 0, 6, 0x80, 1, 0xC0, 2, 3);
        faultIs("its end within one", x, x.read(), 3, 6);
    }

    private static void bitsOfARecord() {
        c.sentence("A RECORD: 1 .. 3 bytes of BITS, GOING likewise (the third's lowest bit is 0)");
        ReportBlocks x = bytesAt(1, 8, 15);
        c.due("one byte", Checks.readBlock(x, 9, 0x80, 5), 1);
        c.due("begin", x.has(0, 1, 1), 4);
        c.due("two bytes", Checks.readBlock(x, 9, 0x81, 0x80, 5, 6), 1);
        c.due("begin", x.has(0, 1, 1), 5);
        c.due("begin of 8", x.has(0, 8, 1), 6);
        c.due("three bytes", Checks.readBlock(x, 9, 0x81, 0x81, 0x80, 5, 6, 7), 1);
        c.due("begin", x.has(0, 1, 1), 6);
        c.due("begin of 15", x.has(0, 15, 1), 8);
        faultIs("the third has 1", x, Checks.readBlock(x, 9, 0x81, 0x81, 0x81, 5, 6, 7, 8), 4, 5);
        faultIs("no second", x, Checks.readBlock(x, 9, 0x81), 3, 4);
        faultIs("no third", x, Checks.readBlock(x, 9, 0x81, 0x81), 3, 5);
        c.due("the records stay", x.has(0, 15, 1), 8);
    }

    private static void placesByBits() {
        c.sentence("bit by bit from the highest on, 7 a byte, a PLACE each, 1: it has the ITEM of that;"
            + " then these ITEMS, in that order.");
        int[] all = new int[21];
        for (int i = 0; i < 21; i++) {
            all[i] = i + 1;
        }
        ReportBlocks x = bytesAt(all);
        for (int place : new int[] {1, 6, 7, 8, 9, 13, 14, 15, 20, 21}) {
            int bit = 0x80 >> (place - 1) % 7;
            int[] bits = place < 8 ? new int[] {bit} : place < 15 ? new int[] {1, bit} : new int[] {1, 1, bit};
            c.due("alone " + place, Checks.readBlock(x, 9, join(bits, place)), 1);
            c.due("it is at " + place, x.number(0, place, 0), place);
            c.due("none ahead of " + place, x.has(0, place == 1 ? 21 : place - 1, 0), 0);
            c.due("none behind " + place, x.has(0, place == 21 ? 1 : place + 1, 0), 0);
        }
        c.due("all of them", Checks.readBlock(x, 9, join(new int[] {0xFF, 0xFF, 0xFE}, all)), 1);
        for (int place : all) {
            c.due("of all, " + place, x.number(0, place, 0), place);
            c.due("of all, begin of " + place, x.has(0, place, 1), 5 + place);
        }
    }

    private static void oneBitAtLeast() {
        c.sentence("At least one bit is 1; the last byte of BITS has one");
        ReportBlocks x = bytesAt(1, 8, 15);
        faultIs("no bit", x, Checks.readBlock(x, 9, 0, 1), 4, 3);
        faultIs("no bit in two", x, Checks.readBlock(x, 9, 1, 0, 1), 4, 4);
        faultIs("no bit in three", x, Checks.readBlock(x, 9, 1, 1, 0, 1), 4, 5);
        faultIs("none in the last of two", x, Checks.readBlock(x, 9, 0x81, 0, 1), 4, 4);
        faultIs("none in the last of three", x, Checks.readBlock(x, 9, 0x81, 0x81, 0, 1, 2), 4, 5);
        faultIs("none in a second record", x, Checks.readBlock(x, 9, 0x80, 1, 0, 2), 4, 5);
        c.due("in the last of two alone", Checks.readBlock(x, 9, 1, 0x80, 1), 1);
        c.due("in the last of three alone", Checks.readBlock(x, 9, 1, 1, 0x80, 1), 1);
        c.due("in the first and the last", Checks.readBlock(x, 9, 0x81, 1, 0x80, 1, 2), 1);
    }

    private static void oneBitOfAMadeOneAtLeast() {
        c.sentence("(so do a MADE one's last BITS: one bit at least in all, too)");
        ReportBlocks x = of(3, 0);
        x.part(0, 1, 0, 1);
        x.part(0, 1, 7, 1);
        faultIs("no bit", x, Checks.readBlock(x, 9, 0x80, 0, 1), 4, 4);
        faultIs("no bit in two", x, Checks.readBlock(x, 9, 0x80, 1, 0, 1), 4, 5);
        faultIs("none in the last of two", x, Checks.readBlock(x, 9, 0x80, 0x81, 0, 1), 4, 5);
        c.due("in the last of two alone", Checks.readBlock(x, 9, 0x80, 1, 0x80, 1), 1);
        c.due("in the only one", Checks.readBlock(x, 9, 0x80, 0x80, 1), 1);
    }

    private static void readLatest() {
        c.sentence("RECORDS of the BLOCK that was read latest are there (8 at most), with their ITEMS as bytes.");
        ReportBlocks x = bytesAt(1, 2);
        c.due("three", Checks.readBlock(x, 9, 0x80, 1, 0x40, 2, 0xC0, 3, 4), 3);
        c.due("one", Checks.readBlock(x, 9, 0x40, 5), 1);
        c.due("of the latest", x.number(0, 2, 0), 5);
        c.due("none of the one before", x.has(0, 1, 0), 0);
        c.due("nor its second", x.has(1, 2, 0), BAD);
        c.due("another one", Checks.readBlock(x, 9, 0x40, 5), 1);
        c.due("none of the one before that", x.has(0, 1, 0), 0);
        faultIs("a fault", x, Checks.readBlock(x, 9, 0xC0, 6, 7, 0x20), 5, 6);
        c.due("the latest that was read", x.number(0, 2, 0), 5);
        c.due("one still", x.records(0), 1);
    }

    private static void eightAtMost() {
        c.sentence("(8 at most)");
        ReportBlocks x = bytesAt(1);
        int[] rest = new int[18];
        for (int i = 0; i < 18; i += 2) {
            rest[i] = 0x80;
            rest[i + 1] = 50 + i;
        }
        c.due("eight", Checks.readBlock(x, 9, Arrays.copyOf(rest, 16)), 8);
        c.due("the eighth", x.number(7, 1, 0), 64);
        c.due("no ninth", x.number(8, 1, 0), BAD);
        faultIs("nine", x, Checks.readBlock(x, 9, rest), 8, 19);
        c.due("the eight stay", x.records(0), 8);
    }

    private static void written() {
        c.sentence("WRITTEN is a BLOCK of them with the bytes that make it so: as it was read.");
        ReportBlocks x = of(3, 0);
        x.part(0, 1, 7, 1);
        x.item(0, 2, 1, 0);
        x.item(0, 15, 2, 1);
        int[] block = Checks.block(9, 1, 1, 0x80, 2, 7, 8, 0xC0, 1, 0x80, 0xFF, 0xFF, 1, 0, 0x40, 2);
        Checks.feed(x, block);
        x.read();
        c.due("all of it", x.copy(0), block.length);
        c.tapeIs("all of it", x, block);
        c.due("read once more", x.read(), 3);
        c.due("all of it again", x.copy(0), block.length);
        c.tapeIs("all of it again", x, block);
    }

    private static void fewBits() {
        c.sentence("A RECORD of one's own is made ITEM by ITEM for a CATEGORY; WRITTEN it has as few BITS as can be.");
        ReportBlocks x = bytesAt(1, 7, 8, 14, 15, 21);
        x.begin(0);
        own(x, 21);
        c.due("three bytes of bits", x.write(), 7);
        c.tapeIs("three bytes of bits", x, 9, 0, 7, 1, 1, 2, 21);
        own(x, 15);
        x.take(21);
        c.due("still three", x.write(), 7);
        c.tapeIs("still three", x, 9, 0, 7, 1, 1, 0x80, 15);
        own(x, 14);
        x.take(15);
        c.due("two", x.write(), 6);
        c.tapeIs("two", x, 9, 0, 6, 1, 2, 14);
        own(x, 8);
        x.take(14);
        c.due("still two", x.write(), 6);
        c.tapeIs("still two", x, 9, 0, 6, 1, 0x80, 8);
        own(x, 7);
        x.take(8);
        c.due("one", x.write(), 5);
        c.tapeIs("one", x, 9, 0, 5, 2, 7);
        own(x, 1);
        x.tear();
        c.due("still one", x.write(), 6);
        c.tapeIs("still one", x, 9, 0, 6, 0x82, 1, 7);
        x.take(1);
        x.take(7);
        c.due("none", x.write(), STATE);
    }

    private static void own(ReportBlocks x, int place) {
        x.tear();
        x.feed(place, 1);
        c.due("set", x.set(place), 1);
    }
}
