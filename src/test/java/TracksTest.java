/** Promises 21 to 24: report, tick, track, count. */
public final class TracksTest {
    private static final int BAD = ReportBlocks.BAD, NONE = ReportBlocks.NONE;
    private static final int LEAST = Integer.MIN_VALUE, MOST = Integer.MAX_VALUE;
    private static final Checks c = new Checks("TracksTest");

    public static void main(String[] args) {
        aTrackComes();
        recordsThatTellNone();
        speed();
        speedOfCoasting();
        speedIsCutOff();
        goingRound();
        ageAndDrop();
        rowClosesUp();
        lost();
        severalCategories();
        tick();
        track();
        count();
        c.finish();
    }

    private static ReportBlocks told() {
        ReportBlocks x = Checks.usual();
        x.tells(0, 1, 2);
        return x;
    }

    private static int report(ReportBlocks x, int number, int itsX, int itsY) {
        Checks.readBlock(x, 48, 0xC0, number >> 8 & 255, number & 255, itsX >> 8 & 255, itsX & 255,
            itsY >> 8 & 255, itsY & 255);
        return x.report(0);
    }

    private static void trackIs(String when, ReportBlocks x, int place, int... want) {
        String[] names = {"number", "x", "y", "speed of x", "speed of y", "age", "hits"};
        for (int what = 0; what < 7; what++) {
            c.due(when + ": " + names[what], x.track(place, what), want[what]);
        }
    }

    private static void aTrackComes() {
        ReportBlocks x = told();
        c.due("comes", report(x, 0xF234, 5, -5), 0);
        trackIs("as it comes", x, 0, 0x234, 5, -5, 0, 0, 0, 1);
        c.due("another", report(x, 0x0235, -32768, 32767), 1);
        trackIs("another", x, 1, 0x235, -32768, 32767, 0, 0, 0, 1);
        c.due("the first again", report(x, 0x1234, 6, -6), 0);
        trackIs("the first again", x, 0, 0x234, 6, -6, 1, -1, 0, 2);
        c.due("number 0", report(x, 0xF000, 0, 0), 2);
        c.due("number 4095", report(x, 4095, 0, 0), 3);
        c.due("number 4095 in the row", x.track(3, 0), 4095);
        c.due("no more came", x.count(1), 4);
    }

    private static void recordsThatTellNone() {
        ReportBlocks x = told();
        c.due("no record", x.report(0), BAD);
        Checks.readBlock(x, 48, 0x80, 0, 1, 0x40, 0, 1, 0, 2, 0x20, 2, 0xE0, 0, 9, 0, 1, 0, 2, 4);
        c.due("no position", x.report(0), NONE);
        c.due("no number", x.report(1), NONE);
        c.due("neither", x.report(2), NONE);
        c.due("no track came", x.count(1), 0);
        c.due("none is lost", x.count(2), 0);
        c.due("both", x.report(3), 0);
        trackIs("both", x, 0, 9, 1, 2, 0, 0, 0, 1);
        c.due("the same again", x.report(3), 0);
        trackIs("the same again", x, 0, 9, 1, 2, 0, 0, 0, 2);
        for (int record : new int[] {4, 8, -1, LEAST, MOST}) {
            c.due("report(" + record + ")", x.report(record), BAD);
        }
    }

    private static void speed() {
        ReportBlocks x = told();
        report(x, 7, 100, -100);
        x.tick(1);
        report(x, 7, 110, -130);
        trackIs("after one tick", x, 0, 7, 110, -130, 10, -30, 0, 2);
        report(x, 7, 115, -131);
        trackIs("after none", x, 0, 7, 115, -131, 5, -1, 0, 3);
        x.tick(1);
        trackIs("age 1 does not coast", x, 0, 7, 115, -131, 5, -1, 1, 3);
        x.tick(1);
        trackIs("age 2 coasts", x, 0, 7, 120, -132, 5, -1, 2, 3);
        x.tick(3);
        trackIs("age 5 coasts", x, 0, 7, 135, -135, 5, -1, 5, 3);
        report(x, 7, 15, 69);
        trackIs("after five", x, 0, 7, 15, 69, -20, 40, 0, 4);
    }

    // Coasting moves X, Y, but speed is from where it was as it was updated.
    private static void speedOfCoasting() {
        ReportBlocks x = told();
        report(x, 7, 0, 0);
        x.tick(1);
        report(x, 7, 10, 20);
        x.tick(4);
        trackIs("coasted", x, 0, 7, 40, 80, 10, 20, 4, 2);
        report(x, 7, 50, 100);
        trackIs("updated", x, 0, 7, 50, 100, 10, 20, 0, 3);
        x.tick(2);
        report(x, 7, 50, 100);
        trackIs("it stood still", x, 0, 7, 50, 100, 0, 0, 0, 4);
    }

    private static void speedIsCutOff() {
        ReportBlocks x = told();
        report(x, 7, 0, 0);
        x.tick(3);
        report(x, 7, 8, -8);
        trackIs("of three ticks", x, 0, 7, 8, -8, 2, -2, 0, 2);
        x.tick(2);
        report(x, 7, 7, -7);
        trackIs("less than one", x, 0, 7, 7, -7, 0, 0, 0, 3);
    }

    private static void goingRound() {
        ReportBlocks x = told();
        report(x, 7, -32768, 32767);
        report(x, 7, 32767, -32768);
        trackIs("as far as can be", x, 0, 7, 32767, -32768, 65535, -65535, 0, 2);
        x.tick(2);
        trackIs("coasts one", x, 0, 7, 32766, -32767, 65535, -65535, 2, 2);
        report(x, 8, 0, 0);
        x.tick(1);
        report(x, 8, 20000, -20000);
        x.tick(2);
        c.due("beyond the most", x.track(1, 1), 40000 - 65536);
        c.due("beyond the least", x.track(1, 2), 65536 - 40000);
    }

    private static void ageAndDrop() {
        ReportBlocks x = told();
        report(x, 7, 0, 0);
        c.due("five ticks", x.tick(5), 0);
        c.due("age 5", x.track(0, 5), 5);
        c.due("the sixth", x.tick(1), 1);
        c.due("it is gone", x.track(0, 0), BAD);
        c.due("dropped ever", x.count(3), 1);
        c.due("it comes anew", report(x, 7, 50, 50), 0);
        trackIs("it comes anew", x, 0, 7, 50, 50, 0, 0, 0, 1);
        x.tick(5);
        report(x, 7, 55, 45);
        trackIs("updated in time", x, 0, 7, 55, 45, 1, -1, 0, 2);
        c.due("five more", x.tick(5), 0);
        c.due("the sixth", x.tick(1), 1);
        c.due("dropped ever", x.count(3), 2);
    }

    private static void rowClosesUp() {
        ReportBlocks x = told();
        for (int number = 0; number < 5; number++) {
            report(x, number, number, 0);
        }
        x.tick(3);
        report(x, 3, 30, 0);
        report(x, 1, 10, 0);
        c.due("three are dropped", x.tick(3), 3);
        c.due("two are left", x.count(1), 2);
        trackIs("the first left", x, 0, 1, 16, 0, 3, 0, 3, 2);
        trackIs("the second left", x, 1, 3, 48, 0, 9, 0, 3, 2);
        c.due("no third", x.track(2, 0), BAD);
        c.due("one comes at the end", report(x, 2, 9, 9), 2);
        trackIs("at the end", x, 2, 2, 9, 9, 0, 0, 0, 1);
        for (int number = 10; number < 19; number++) {
            c.due("more come", report(x, number, number, -number), number - 7);
        }
        for (int number = 10; number < 19; number++) {
            trackIs("more came", x, number - 7, number, number, -number, 0, 0, 0, 1);
        }
        x.tick(2);
        c.due("one of these again", report(x, 2, 9, 9), 2);
        c.due("the two are dropped", x.tick(1), 2);
        trackIs("the first then", x, 0, 2, 9, 9, 0, 0, 1, 2);
        trackIs("the last then", x, 9, 18, 18, -18, 0, 0, 3, 1);
        c.due("all but one are dropped", x.tick(3), 9);
        c.due("which is left", x.track(0, 0), 2);
    }

    private static void lost() {
        ReportBlocks x = told();
        for (int i = 0; i < 12; i++) {
            c.due("comes", report(x, 100 + i, i, i), i);
        }
        c.due("a 13th", report(x, 99, 1, 1), NONE);
        c.due("the same", x.report(0), NONE);
        c.due("lost ever", x.count(2), 2);
        c.due("none came", x.count(1), 12);
        c.due("one of the twelve", report(x, 111, 1, 1), 11);
        c.due("lost ever", x.count(2), 2);
        x.tick(5);
        report(x, 105, 1, 1);
        c.due("eleven are dropped", x.tick(1), 11);
        c.due("there is room", report(x, 99, 1, 1), 1);
        c.due("lost ever", x.count(2), 2);
    }

    private static void severalCategories() {
        ReportBlocks x = told();
        x.category(62);
        x.item(1, 14, 0, 2);
        x.item(1, 3, 0, 4);
        c.due("told by other places", x.tells(1, 14, 3), 1);
        report(x, 300, 1, 2);
        x.tick(1);
        Checks.readBlock(x, 62, 0x21, 2, 0, 3, 0, 5, 1, 44);
        c.due("the same track", x.report(0), 0);
        trackIs("the same track", x, 0, 300, 3, 5, 2, 3, 0, 2);
        x.category(63);
        x.item(2, 1, 0, 2);
        x.item(2, 2, 0, 4);
        Checks.readBlock(x, 63, 0xC0, 1, 44, 0, 0, 0, 0);
        c.due("one that is not told", x.report(0), NONE);
        c.due("the track stays", x.track(0, 6), 2);
    }

    private static void tick() {
        ReportBlocks x = told();
        for (int n : new int[] {0, 21, -1, LEAST, MOST}) {
            c.due("tick(" + n + ")", x.tick(n), BAD);
        }
        c.due("no ticks", x.count(4), 0);
        c.due("twenty without tracks", x.tick(20), 0);
        c.due("ticks ever", x.count(4), 20);
        report(x, 1, 0, 0);
        x.tick(1);
        report(x, 2, 0, 0);
        report(x, 3, 0, 0);
        c.due("one of three", x.tick(5), 1);
        c.due("the others", x.tick(20), 2);
        c.due("dropped ever", x.count(3), 3);
        c.due("ticks ever", x.count(4), 46);
    }

    private static void track() {
        ReportBlocks x = told();
        c.due("none", x.track(0, 0), BAD);
        report(x, 1, 2, 3);
        int[][] bad = {{1, 0}, {-1, 0}, {0, 7}, {0, -1}, {11, 0}, {12, 0}, {LEAST, 0}, {MOST, 0},
            {0, LEAST}, {0, MOST}};
        for (int[] b : bad) {
            c.due("track of bad numbers", x.track(b[0], b[1]), BAD);
        }
        trackIs("the one there is", x, 0, 1, 2, 3, 0, 0, 0, 1);
    }

    private static void count() {
        ReportBlocks x = told();
        for (int what : new int[] {-1, 7, LEAST, MOST}) {
            c.due("count(" + what + ")", x.count(what), BAD);
        }
        x.category(9);
        report(x, 1, 2, 3);
        report(x, 2, 2, 3);
        report(x, 1, 2, 3);
        x.tick(4);
        report(x, 2, 2, 3);
        x.tick(2);
        x.feed(1, 5);
        int[] want = {2, 1, 0, 1, 6, 5, 4};
        for (int what = 0; what < 7; what++) {
            c.due("count(" + what + ")", x.count(what), want[what]);
        }
    }
}
