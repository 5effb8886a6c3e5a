import java.util.Arrays;

/** Each sentence of 'Terms' about faults: where each one is, and which comes first. */
public final class EdgesOfFaultsTest {
    private static final Checks c = new Checks("EdgesOfFaultsTest");

    public static void main(String[] args) {
        theFirstFromTheLeft();
        itsBytesPlace();
        noSuchCategory();
        lengthBelowFour();
        lengthBeyondTheTape();
        lengthNotThereWhole();
        behindTheEnd();
        lowestBitWithNoNext();
        noBitInTheLast();
        placeThatThereIsNot();
        partThatThereIsNot();
        leftmost();
        timesThatAreNone();
        sixthThatGoesOn();
        ninthRecord();
        aheadOfTheNinth();
        ofOneByteTheLeast();
        allBitsOfARecord();
        allBitsOfAMadeOne();
        c.finish();
    }

    /** Category 9: 1 FIXED 1, 2 GOING, 3 AGAIN 3, 4 MADE (parts 0, 7: 2 bytes), 8 and 15 FIXED 1. */
    private static ReportBlocks some() {
        ReportBlocks x = new ReportBlocks();
        x.category(9);
        x.item(0, 1, 0, 1);
        x.item(0, 2, 1, 0);
        x.item(0, 3, 2, 3);
        x.item(0, 4, 3, 0);
        x.part(0, 4, 0, 2);
        x.part(0, 4, 7, 2);
        x.item(0, 8, 0, 1);
        x.item(0, 15, 0, 1);
        return x;
    }

    private static void faultIs(ReportBlocks x, int fault, int place, int... bytes) {
        String when = Arrays.toString(bytes);
        x.tear();
        Checks.feed(x, bytes);
        int blocks = x.count(6);
        c.due(when + ": read()", x.read(), -100 - place);
        c.due(when + ": fault()", x.fault(), fault);
        c.due(when + ": bytes of the tape", x.count(5), bytes.length);
        c.due(when + ": blocks read", x.count(6), blocks);
    }

    private static void faultInBlock(ReportBlocks x, int fault, int place, int... rest) {
        faultIs(x, fault, place, Checks.block(9, rest));
    }

    private static void isRead(ReportBlocks x, int records, int... rest) {
        c.due(Arrays.toString(rest) + ": read()", Checks.readBlock(x, 9, rest), records);
        c.due(Arrays.toString(rest) + ": fault()", x.fault(), 0);
    }

    private static void theFirstFromTheLeft() {
        c.sentence("FAULTS, the first one that reading from the left meets");
        ReportBlocks x = some();
        faultIs(x, 1, 0, 8, 0, 2, 0);
        faultIs(x, 2, 1, 9, 0, 3, 0);
        faultInBlock(x, 4, 3, 0, 0x10, 1);
        faultInBlock(x, 5, 3, 0x08, 0x20, 6, 1);
        faultInBlock(x, 6, 4, 0x20, 6, 0x08);
        faultInBlock(x, 6, 4, 0x30, 0, 0);
        faultInBlock(x, 4, 8, 0x30, 1, 1, 2, 3, 0, 0x08);
        faultInBlock(x, 7, 9, 0x60, 1, 1, 1, 1, 1, 1, 0);
        faultInBlock(x, 6, 5, 0x60, 0, 0, 1, 1, 1, 1, 1, 1);
        faultInBlock(x, 5, 4, 0x10, 0xC0, 1);
        faultInBlock(x, 3, 8, 0x20, 2, 1, 2, 3);
        faultInBlock(x, 5, 5, 0x80, 1, 0x08, 0, 0);
    }

    private static void itsBytesPlace() {
        c.sentence("with its byte's place (0 ..)");
        ReportBlocks x = some();
        faultIs(x, 1, 0, 8);
        faultIs(x, 2, 1, 9);
        faultInBlock(x, 4, 3, 0);
        faultInBlock(x, 3, 4, 0x80);
        farFromTheLeft();
    }

    // Places beyond 255.
    private static void farFromTheLeft() {
        ReportBlocks x = some();
        int[] rest = new int[297];
        int next = 0;
        for (int place = 5; place <= 7; place++) {
            x.item(0, place, 0, 8);
        }
        for (int record = 0; record < 7; record++) {
            rest[next] = 0x2E;
            rest[next + 1] = 5;
            next += 1 + 16 + 24;
        }
        int[] last = Arrays.copyOf(rest, next + 2);
        last[next] = 0x40;
        last[next + 1] = 1;
        faultInBlock(x, 3, next + 5, last);
        last[next] = 0x20;
        last[next + 1] = 6;
        faultInBlock(x, 6, next + 4, last);
    }

    private static void noSuchCategory() {
        c.sentence("1 a CATEGORY that there is not");
        ReportBlocks none = new ReportBlocks();
        faultIs(none, 1, 0, 0, 0, 5, 0x80, 1);
        faultIs(none, 1, 0, 9, 0, 5, 0x80, 1);
        ReportBlocks x = some();
        faultIs(x, 1, 0, 0, 0, 5, 0x80, 1);
        faultIs(x, 1, 0, 8, 0, 5, 0x80, 1);
        faultIs(x, 1, 0, 10, 0, 5, 0x80, 1);
        faultIs(x, 1, 0, 255, 0, 5, 0x80, 1);
        isRead(x, 1, 0x80, 1);
        x.category(10);
        faultIs(x, 5, 3, 10, 0, 5, 0x80, 1);
    }

    private static void lengthBelowFour() {
        c.sentence("2 a length (at its first byte, place 1) that is below 4");
        ReportBlocks x = some();
        for (int length = 0; length < 4; length++) {
            faultIs(x, 2, 1, 9, 0, length, 0x80, 1, 0x80, 1);
        }
        faultIs(x, 3, 4, 9, 0, 4, 0x80, 1, 0x80, 1);
        isRead(x, 1, 0x80, 1);
    }

    private static void lengthBeyondTheTape() {
        c.sentence("or beyond THE TAPE's end");
        ReportBlocks x = some();
        faultIs(x, 2, 1, 9, 0, 6, 0x80, 1);
        faultIs(x, 2, 1, 9, 0, 4);
        faultIs(x, 2, 1, 9, 1, 5, 0x80, 1);
        faultIs(x, 2, 1, 9, 255, 255, 0x80, 1);
        faultIs(x, 2, 1, 9, 128, 5, 0x80, 1);
        isRead(x, 1, 0x80, 1);
        int[] full = new int[300];
        full[0] = 9;
        full[1] = 1;
        full[2] = 300 - 256 + 1;
        faultIs(x, 2, 1, full);
        full[2]--;
        faultIs(x, 4, 3, full);
    }

    private static void lengthNotThereWhole() {
        c.sentence("or not there whole");
        ReportBlocks x = some();
        faultIs(x, 2, 1, 9);
        faultIs(x, 2, 1, 9, 0);
        faultIs(x, 2, 1, 9, 5);
        faultIs(x, 1, 0, 8);
        faultIs(x, 1, 0, 8, 0);
        x.tear();
        Checks.feed(x, 9, 0, 5, 0x80, 7);
        x.read();
        Checks.feed(x, 9, 0);
        c.due("bytes that were there before", x.read(), -101);
        x.feed(5, 1);
        c.due("it is whole, and too long", x.read(), -101);
        Checks.feed(x, 0x80, 7);
        c.due("it is there", x.read(), 1);
    }

    private static void behindTheEnd() {
        c.sentence("3 a byte that has to be there behind the BLOCK's end (at that end)");
        ReportBlocks x = some();
        faultInBlock(x, 3, 4, 0x81);
        faultInBlock(x, 3, 5, 0x81, 0x81);
        faultInBlock(x, 3, 4, 0x80);
        faultInBlock(x, 3, 6, 0x81, 0x80, 1);
        faultInBlock(x, 3, 4, 0x40);
        faultInBlock(x, 3, 5, 0x40, 1);
        faultInBlock(x, 3, 9, 0x40, 1, 1, 1, 1, 1);
        faultInBlock(x, 3, 4, 0x20);
        faultInBlock(x, 3, 5, 0x20, 1);
        faultInBlock(x, 3, 7, 0x20, 1, 1, 2);
        faultInBlock(x, 3, 19, 0x20, 5, 1, 2, 3, 1, 2, 3, 1, 2, 3, 1, 2, 3, 1, 2);
        faultInBlock(x, 3, 4, 0x10);
        faultInBlock(x, 3, 5, 0x10, 0x81);
        faultInBlock(x, 3, 6, 0x10, 0x80, 1);
        faultInBlock(x, 3, 9, 0x10, 0x81, 0x80, 1, 2, 3);
        faultInBlock(x, 3, 6, 0x80, 1, 0x80);
        faultIs(x, 3, 4, 9, 0, 4, 0x80, 1);
        faultIs(x, 3, 5, 9, 0, 5, 0x40, 1, 0);
        faultIs(x, 3, 6, 9, 0, 6, 0x20, 1, 2, 3, 4);
        faultIs(x, 3, 5, 9, 0, 5, 0x10, 0x80, 1, 2);
        faultIs(x, 3, 4, 9, 0, 4, 0x81, 0x80, 1, 2);
        faultIs(x, 3, 4, 9, 0, 4, 0x20, 1, 1, 2, 3);
    }

    private static void lowestBitWithNoNext() {
        c.sentence("4 BITS (of a RECORD, a MADE one) whose byte is as it may not be (at that byte:"
            + " a lowest bit 1 where there is no next one");
        ReportBlocks x = some();
        faultInBlock(x, 4, 5, 0x81, 0x81, 0x81, 1, 2, 3);
        faultInBlock(x, 4, 5, 0x81, 0x81, 1, 1, 2, 3);
        faultInBlock(x, 4, 5, 1, 1, 0xFF, 0x80, 1, 2, 3);
        isRead(x, 1, 0x81, 0x81, 0x80, 1, 2, 3);
        faultInBlock(x, 4, 5, 0x10, 0x81, 0x81, 1, 2, 3, 4);
        faultInBlock(x, 4, 5, 0x10, 0x81, 1, 1, 2, 3, 4);
        isRead(x, 1, 0x10, 0x81, 0x80, 1, 2, 3, 4);
        faultInBlock(x, 4, 7, 0x80, 1, 1, 1, 1, 0x80);
    }

    private static void noBitInTheLast() {
        c.sentence("0 in the other 7 bits of the last one");
        ReportBlocks x = some();
        faultInBlock(x, 4, 3, 0, 1);
        faultInBlock(x, 4, 4, 0x81, 0, 1);
        faultInBlock(x, 4, 5, 0x81, 0x81, 0, 1, 2);
        faultInBlock(x, 4, 5, 1, 1, 0, 1);
        isRead(x, 1, 1, 1, 0x80, 1);
        faultInBlock(x, 4, 4, 0x10, 0, 1);
        faultInBlock(x, 4, 5, 0x10, 0x81, 0, 1, 2);
        isRead(x, 1, 0x10, 1, 0x80, 1, 2);
        faultInBlock(x, 4, 5, 0x80, 1, 0);
    }

    private static void placeThatThereIsNot() {
        c.sentence("5 a bit of a PLACE, a PART that there is not (at the byte of BITS");
        ReportBlocks x = some();
        faultInBlock(x, 5, 3, 0x08, 1);
        faultInBlock(x, 5, 3, 0x02, 1);
        faultInBlock(x, 5, 4, 1, 0x40, 1);
        faultInBlock(x, 5, 4, 1, 0x02, 1);
        faultInBlock(x, 5, 5, 1, 1, 0x40, 1);
        faultInBlock(x, 5, 5, 1, 1, 0x02, 1);
        faultInBlock(x, 5, 3, 0x88, 1, 1);
        faultInBlock(x, 5, 4, 0x81, 0x82, 1, 1, 1);
        isRead(x, 1, 0x81, 0x81, 0x80, 1, 1, 1);
    }

    private static void partThatThereIsNot() {
        c.sentence("a PART that there is not (at the byte of BITS");
        ReportBlocks x = some();
        faultInBlock(x, 5, 4, 0x10, 0x40, 1, 2);
        faultInBlock(x, 5, 4, 0x10, 0x02, 1, 2);
        faultInBlock(x, 5, 4, 0x10, 0x82, 1, 2, 3, 4);
        faultInBlock(x, 5, 5, 0x10, 1, 0x40, 1, 2);
        faultInBlock(x, 5, 5, 0x10, 0x81, 0x02, 1, 2, 3, 4);
        faultInBlock(x, 5, 5, 0x10, 0x81, 0x82, 1, 2, 3, 4);
        isRead(x, 1, 0x10, 0x81, 0x80, 1, 2, 3, 4);
        faultInBlock(x, 5, 4, 0x10, 0x40);
    }

    private static void leftmost() {
        c.sentence("the leftmost)");
        ReportBlocks x = some();
        faultInBlock(x, 5, 3, 0x09, 0x40, 1, 2);
        faultInBlock(x, 5, 3, 0x09, 0x41, 0x40, 1, 2);
        faultInBlock(x, 5, 4, 0x81, 0x41, 0x40, 1, 2);
        faultInBlock(x, 5, 4, 0x10, 0x41, 0x40, 1, 2);
        faultInBlock(x, 5, 5, 0x10, 0x81, 0x40, 1, 2);
        faultInBlock(x, 5, 3, 0x18, 0x40, 1, 2);
    }

    private static void timesThatAreNone() {
        c.sentence("6 r that is none (at it)");
        ReportBlocks x = some();
        for (int r : new int[] {0, 6, 7, 128, 255}) {
            int[] rest = new int[40];
            rest[0] = 0x20;
            rest[1] = r;
            faultInBlock(x, 6, 4, rest);
            faultInBlock(x, 6, 4, 0x20, r);
            faultInBlock(x, 6, 6, 0x80, 1, 0x20, r);
            faultInBlock(x, 6, 7, 0xE0, 1, 1, 2, r, 3);
        }
        isRead(x, 1, 0x20, 1, 1, 2, 3);
        isRead(x, 1, 0x20, 5, 1, 2, 3, 1, 2, 3, 1, 2, 3, 1, 2, 3, 1, 2, 3);
    }

    private static void sixthThatGoesOn() {
        c.sentence("7 a sixth byte of a GOING one that goes on (at it)");
        ReportBlocks x = some();
        faultInBlock(x, 7, 9, 0x40, 1, 1, 1, 1, 1, 1, 0);
        faultInBlock(x, 7, 9, 0x40, 1, 1, 1, 1, 1, 0xFF);
        faultInBlock(x, 7, 10, 0xC0, 2, 3, 3, 3, 3, 3, 3, 2);
        isRead(x, 1, 0x40, 1, 1, 1, 1, 1, 0);
        isRead(x, 1, 0x40, 1, 1, 1, 1, 1, 0xFE);
        isRead(x, 1, 0x40, 1, 1, 1, 1, 0);
    }

    private static int[] eightAnd(int... more) {
        int[] rest = new int[16 + more.length];
        for (int i = 0; i < 16; i += 2) {
            rest[i] = 0x80;
            rest[i + 1] = i;
        }
        System.arraycopy(more, 0, rest, 16, more.length);
        return rest;
    }

    private static void ninthRecord() {
        c.sentence("8 a 9th RECORD (where it begins");
        ReportBlocks x = some();
        isRead(x, 8, eightAnd());
        faultInBlock(x, 8, 19, eightAnd(0x80, 1));
        faultInBlock(x, 8, 19, eightAnd(0x80, 1, 0x80, 1));
        x.tear();
        Checks.feed(x, Checks.block(9, eightAnd()));
        Checks.feed(x, 0x80, 1);
        c.due("behind the block's end there is none", x.read(), 8);
        c.due("it stays", x.count(5), 2);
        int[] longer = new int[3 * 8 + 2];
        for (int i = 0; i < 8; i++) {
            longer[3 * i] = 0xC0;
        }
        longer[24] = 0x80;
        faultInBlock(x, 8, 27, longer);
    }

    private static void aheadOfTheNinth() {
        c.sentence("ahead of it its first byte alone by 4, 5)");
        ReportBlocks x = some();
        faultInBlock(x, 4, 19, eightAnd(0));
        faultInBlock(x, 4, 19, eightAnd(0, 1));
        faultInBlock(x, 5, 19, eightAnd(0x08, 1));
        faultInBlock(x, 5, 19, eightAnd(0x88, 1));
        faultInBlock(x, 5, 19, eightAnd(0x09, 0x80));
        faultInBlock(x, 8, 19, eightAnd(0x80));
        faultInBlock(x, 8, 19, eightAnd(1));
        faultInBlock(x, 8, 19, eightAnd(1, 0));
        faultInBlock(x, 8, 19, eightAnd(0x81, 0x40));
        faultInBlock(x, 8, 19, eightAnd(1, 1, 1));
        faultInBlock(x, 8, 19, eightAnd(0x20, 0));
        faultInBlock(x, 8, 19, eightAnd(0x40, 1, 1, 1, 1, 1, 1));
        faultInBlock(x, 8, 19, eightAnd(0x10, 0x40));
        faultInBlock(x, 8, 19, eightAnd(0x10));
    }

    private static void ofOneByteTheLeast() {
        c.sentence("Of one byte the least number");
        ReportBlocks x = some();
        faultInBlock(x, 4, 5, 1, 1, 0x41, 1);
        faultInBlock(x, 4, 5, 0x10, 1, 0x41, 1, 2);
        faultInBlock(x, 4, 19, eightAnd(0));
        faultInBlock(x, 5, 19, eightAnd(0x08));
        behindTheEndAndWrong(x);
    }

    // A byte that is not the block's own, and would be wrong if it were.
    private static void behindTheEndAndWrong(ReportBlocks x) {
        faultIs(x, 3, 4, 9, 0, 4, 0x81, 0);
        faultIs(x, 3, 5, 9, 0, 5, 0x81, 0x81, 1);
        faultIs(x, 3, 5, 9, 0, 5, 0x81, 0x81, 0x40);
        faultIs(x, 3, 4, 9, 0, 4, 0x10, 0);
        faultIs(x, 3, 5, 9, 0, 5, 0x10, 0x81, 0x81);
        faultIs(x, 3, 4, 9, 0, 4, 0x20, 0);
        faultIs(x, 3, 4, 9, 0, 4, 0x20, 6);
        faultIs(x, 3, 9, 9, 0, 9, 0x40, 1, 1, 1, 1, 1, 1);
    }

    private static void allBitsOfARecord() {
        c.sentence("BITS of one RECORD, one MADE ITEM are all looked at by 3, 4 ahead of 5");
        ReportBlocks x = some();
        faultInBlock(x, 3, 4, 0x09);
        faultInBlock(x, 3, 5, 0x09, 0x41);
        faultInBlock(x, 4, 4, 0x09, 0, 1);
        faultInBlock(x, 4, 5, 0x09, 0x41, 0, 1);
        faultInBlock(x, 4, 5, 0x09, 0x41, 0x41, 1);
        faultInBlock(x, 4, 5, 0x81, 0x41, 0x41, 1);
        faultInBlock(x, 5, 3, 0x09, 0x80);
        faultInBlock(x, 5, 5, 0x80, 1, 0x08, 0);
        faultIs(x, 3, 4, 9, 0, 4, 0x09, 0x80, 1);
    }

    private static void allBitsOfAMadeOne() {
        c.sentence("one MADE ITEM are all looked at by 3, 4 ahead of 5");
        ReportBlocks x = some();
        faultInBlock(x, 3, 5, 0x10, 0x41);
        faultInBlock(x, 4, 5, 0x10, 0x41, 0, 1);
        faultInBlock(x, 4, 5, 0x10, 0x41, 0x81, 1);
        faultInBlock(x, 5, 4, 0x10, 0x41, 0x80);
        faultInBlock(x, 5, 4, 0x10, 0x40);
        faultIs(x, 3, 5, 9, 0, 5, 0x10, 0x41, 0x80, 1);
    }
}
