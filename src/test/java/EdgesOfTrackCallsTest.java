/** Each sentence of promises 21 to 24 that names a boundary. */
public final class EdgesOfTrackCallsTest {
    private static final int BAD = ReportBlocks.BAD, STATE = ReportBlocks.STATE;
    private static final int FULL = ReportBlocks.FULL, NONE = ReportBlocks.NONE;
    private static final int LEAST = Integer.MIN_VALUE, MOST = Integer.MAX_VALUE;
    private static final Checks c = new Checks("EdgesOfTrackCallsTest");

    public static void main(String[] args) {
        placeInTheRow();
        tellsNone();
        isLost();
        reportBad();
        soManyTicks();
        howManyDropped();
        tickBad();
        track();
        trackBad();
        categories();
        tracks();
        lostEver();
        droppedEver();
        ticksEver();
        bytesOfTheTape();
        blocksEver();
        countBad();
        c.finish();
    }

    /** Category 9 tells the track's number by place 1, X, Y by place 2; place 3 is FIXED 1. */
    private static ReportBlocks told() {
        ReportBlocks x = new ReportBlocks();
        x.category(9);
        x.item(0, 1, 0, 2);
        x.item(0, 2, 0, 4);
        x.item(0, 3, 0, 1);
        x.tells(0, 1, 2);
        return x;
    }

    private static int report(ReportBlocks x, int number, int itsX, int itsY) {
        x.tear();
        x.feed(0x09000A, 3);
        x.feed(0xC0_0000_0000_0000L | (long) number << 32 | (itsX & 0xFFFFL) << 16 | itsY & 0xFFFFL, 7);
        x.read();
        return x.report(0);
    }

    private static ReportBlocks withTracks(int n) {
        ReportBlocks x = told();
        for (int number = 1; number <= n; number++) {
            c.due("track " + number + " comes", report(x, number, number, -number), number - 1);
        }
        return x;
    }

    private static void placeInTheRow() {
        c.sentence("A RECORD is taken: the place of its TRACK in the row (0 ..)");
        ReportBlocks x = withTracks(12);
        for (int number = 12; number >= 1; number--) {
            c.due("track " + number, report(x, number, 0, 0), number - 1);
        }
        ReportBlocks y = told();
        int[] rest = new int[56];
        for (int record = 0; record < 8; record++) {
            rest[7 * record] = 0xC0;
            rest[7 * record + 2] = 50 + record;
        }
        c.due("eight records", Checks.readBlock(y, 9, rest), 8);
        for (int record = 7; record >= 0; record--) {
            c.due("record " + record, y.report(record), 7 - record);
        }
        c.due("the last record's number", y.track(0, 0), 57);
        c.due("the first record's number", y.track(7, 0), 50);
        c.due("the first record again", y.report(0), 7);
    }

    private static void tellsNone() {
        c.sentence("NONE: it tells none");
        ReportBlocks x = told();
        x.category(10);
        x.item(1, 1, 0, 2);
        x.item(1, 2, 0, 4);
        Checks.readBlock(x, 9, 0x80, 0, 7, 0x40, 0, 1, 0, 2, 0x20, 1);
        for (int record = 0; record < 3; record++) {
            c.due("record " + record, x.report(record), NONE);
        }
        Checks.readBlock(x, 10, 0xC0, 0, 7, 0, 1, 0, 2);
        c.due("of a category that was not told", x.report(0), NONE);
        c.due("none came", x.count(1), 0);
        c.due("none is lost", x.count(2), 0);
        x.tells(1, 1, 2);
        c.due("told", x.report(0), 0);
    }

    private static void isLost() {
        c.sentence("or is LOST");
        ReportBlocks x = withTracks(11);
        c.due("the twelfth", report(x, 12, 0, 0), 11);
        c.due("a thirteenth", report(x, 13, 0, 0), NONE);
        c.due("it is lost", x.count(2), 1);
        c.due("the first", report(x, 1, 0, 0), 0);
        Checks.readBlock(x, 9, 0x80, 0, 13);
        c.due("it tells none", x.report(0), NONE);
        c.due("which is not lost", x.count(2), 1);
        x.tick(6);
        c.due("there is room", report(x, 13, 0, 0), 0);
    }

    private static void reportBad() {
        c.sentence("or is LOST. BAD.");
        ReportBlocks x = told();
        c.due("no records", x.report(0), BAD);
        Checks.readBlock(x, 9, 0xC0, 0, 7, 0, 1, 0, 2, 0x80, 0, 8);
        for (int record : new int[] {2, 3, 8, -1, LEAST, MOST}) {
            c.due("report(" + record + ")", x.report(record), BAD);
        }
        c.due("none came", x.count(1), 0);
        c.due("the last", x.report(1), NONE);
        Checks.readBlock(x, 9, 0x80, 0, 8);
        c.due("no longer there", x.report(1), BAD);
    }

    private static void soManyTicks() {
        c.sentence("So many TICKS (1 .. 20)");
        ReportBlocks x = told();
        c.due("tick(1)", x.tick(1), 0);
        c.due("one", x.count(4), 1);
        c.due("tick(20)", x.tick(20), 0);
        c.due("twenty more", x.count(4), 21);
        c.due("tick(2)", x.tick(2), 0);
        c.due("two more", x.count(4), 23);
        report(x, 7, 0, 0);
        report(x, 7, 1, 1);
        x.tick(5);
        c.due("five at once", x.track(0, 1), 5);
        c.due("its age", x.track(0, 5), 5);
    }

    private static void howManyDropped() {
        c.sentence("how many TRACKS were dropped.");
        ReportBlocks x = withTracks(12);
        c.due("five ticks", x.tick(5), 0);
        c.due("one of them", report(x, 3, 0, 0), 2);
        c.due("and another", report(x, 12, 0, 0), 11);
        c.due("a sixth", x.tick(1), 10);
        c.due("four", x.tick(4), 0);
        c.due("twenty", x.tick(20), 2);
        c.due("twenty more", x.tick(20), 0);
        ReportBlocks y = withTracks(12);
        c.due("twenty at once", y.tick(20), 12);
        c.due("none is there", y.count(1), 0);
    }

    private static void tickBad() {
        c.sentence("how many TRACKS were dropped. BAD.");
        ReportBlocks x = withTracks(1);
        for (int n : new int[] {0, 21, -1, 22, LEAST, MOST}) {
            c.due("tick(" + n + ")", x.tick(n), BAD);
        }
        c.due("no tick", x.count(4), 0);
        c.due("its age", x.track(0, 5), 0);
        c.due("it is there", x.count(1), 1);
    }

    private static void track() {
        c.sentence("0 NUMBER, 1 X, 2 Y, 3, 4 its speed, 5 AGE, 6 HITS.");
        ReportBlocks x = withTracks(11);
        report(x, 4095, 100, -200);
        x.tick(1);
        report(x, 4095, 130, -250);
        x.tick(4);
        int[] want = {4095, 130 + 3 * 30, -250 - 3 * 50, 30, -50, 4, 2};
        for (int what = 0; what < 7; what++) {
            c.due("track(11, " + what + ")", x.track(11, what), want[what]);
        }
        int[] first = {1, 1, -1, 0, 0, 5, 1};
        for (int what = 0; what < 7; what++) {
            c.due("track(0, " + what + ")", x.track(0, what), first[what]);
        }
    }

    private static void trackBad() {
        c.sentence("5 AGE, 6 HITS. BAD.");
        ReportBlocks x = told();
        c.due("no track", x.track(0, 0), BAD);
        report(x, 7, 1, 2);
        for (int place : new int[] {1, 11, 12, -1, LEAST, MOST}) {
            c.due("track(" + place + ", 0)", x.track(place, 0), BAD);
        }
        for (int what : new int[] {7, -1, 8, LEAST, MOST}) {
            c.due("track(0, " + what + ")", x.track(0, what), BAD);
        }
        x.tick(6);
        c.due("dropped", x.track(0, 0), BAD);
        ReportBlocks y = withTracks(12);
        c.due("the twelfth", y.track(11, 0), 12);
        c.due("no thirteenth", y.track(12, 0), BAD);
    }

    private static void categories() {
        c.sentence("0 CATEGORIES");
        ReportBlocks x = new ReportBlocks();
        c.due("none", x.count(0), 0);
        for (int n = 1; n <= 3; n++) {
            x.category(n);
            c.due("of " + n, x.count(0), n);
        }
        c.due("a fourth", x.category(4), FULL);
        c.due("three", x.count(0), 3);
    }

    private static void tracks() {
        c.sentence("1 TRACKS");
        ReportBlocks x = told();
        c.due("none", x.count(1), 0);
        report(x, 7, 0, 0);
        c.due("one", x.count(1), 1);
        report(x, 7, 0, 0);
        c.due("one still", x.count(1), 1);
        x.tick(6);
        c.due("none any more", x.count(1), 0);
        ReportBlocks y = withTracks(12);
        c.due("twelve", y.count(1), 12);
        report(y, 13, 0, 0);
        c.due("twelve still", y.count(1), 12);
    }

    private static void lostEver() {
        c.sentence("2 LOST ever");
        ReportBlocks x = withTracks(12);
        c.due("none", x.count(2), 0);
        report(x, 13, 0, 0);
        x.report(0);
        report(x, 14, 0, 0);
        c.due("three", x.count(2), 3);
        x.tick(20);
        c.due("three, though all are dropped", x.count(2), 3);
        report(x, 13, 0, 0);
        c.due("three, though it came", x.count(2), 3);
    }

    private static void droppedEver() {
        c.sentence("3 dropped ever");
        ReportBlocks x = withTracks(12);
        c.due("none", x.count(3), 0);
        x.tick(20);
        c.due("twelve", x.count(3), 12);
        x.tick(20);
        c.due("twelve still", x.count(3), 12);
        report(x, 1, 0, 0);
        c.due("though one came again", x.count(3), 12);
        x.tick(6);
        c.due("thirteen", x.count(3), 13);
    }

    private static void ticksEver() {
        c.sentence("4 TICKS ever");
        ReportBlocks x = withTracks(1);
        c.due("none", x.count(4), 0);
        x.tick(20);
        c.due("twenty, though it was dropped at the sixth", x.count(4), 20);
        x.tick(1);
        c.due("one more", x.count(4), 21);
        x.tick(21);
        x.tick(0);
        c.due("none of those refused", x.count(4), 21);
        for (int i = 0; i < 400; i++) {
            x.tick(20);
        }
        c.due("many", x.count(4), 8021);
    }

    private static void bytesOfTheTape() {
        c.sentence("5 bytes of THE TAPE");
        ReportBlocks x = told();
        c.due("none", x.count(5), 0);
        c.due("300", Checks.feed(x, new int[300]), 300);
        c.due("300", x.count(5), 300);
        x.feed(1, 1);
        c.due("300 still", x.count(5), 300);
        x.tear();
        c.due("none any more", x.count(5), 0);
        Checks.feed(x, 9, 0, 5, 0x20, 1, 7);
        x.read();
        c.due("what was not read", x.count(5), 1);
        x.copy(0);
        c.due("and what is copied", x.count(5), 6);
        x.tear();
        x.begin(0);
        x.feed(7, 1);
        x.set(3);
        c.due("none of what is set", x.count(5), 0);
        x.write();
        c.due("what is written", x.count(5), 5);
    }

    private static void blocksEver() {
        c.sentence("6 BLOCKS read ever.");
        ReportBlocks x = told();
        c.due("none", x.count(6), 0);
        Checks.readBlock(x, 9, 0x20, 1, 0x20, 2);
        c.due("one", x.count(6), 1);
        Checks.readBlock(x, 9, 0);
        c.due("none of those with a fault", x.count(6), 1);
        x.tear();
        c.due("an empty tape", x.read(), STATE);
        c.due("nor of an empty tape", x.count(6), 1);
        x.copy(0);
        c.due("nor one that is written", x.count(6), 1);
        x.read();
        c.due("two", x.count(6), 2);
        for (int i = 0; i < 98; i++) {
            x.copy(0);
            x.read();
        }
        c.due("a hundred", x.count(6), 100);
    }

    private static void countBad() {
        c.sentence("5 bytes of THE TAPE, 6 BLOCKS read ever. BAD.");
        ReportBlocks x = told();
        for (int what : new int[] {7, -1, 8, LEAST, MOST}) {
            c.due("count(" + what + ")", x.count(what), BAD);
        }
    }
}
