/** Each sentence of 'Terms' 3 that names a boundary: tracks, how they are updated, ticks. */
public final class EdgesOfTracksTest {
    private static final int BAD = ReportBlocks.BAD, NONE = ReportBlocks.NONE;
    private static final Checks c = new Checks("EdgesOfTracksTest");

    public static void main(String[] args) {
        twelveAtMost();
        numbers();
        twelveLowestBits();
        positions();
        bothOrNone();
        comesAtTheEnd();
        lost();
        speed();
        speedAsItComes();
        speedIsFromTheLatestUpdate();
        byHowManyTicks();
        oneIfThereWereNone();
        cutOff();
        updated();
        ageOneMore();
        dropped();
        rowClosesUp();
        coasts();
        goesRound();
        c.finish();
    }

    /** Category 9 tells the track's number by place 1, X, Y by place 2; place 3 is FIXED 1. */
    private static ReportBlocks told() {
        ReportBlocks x = new ReportBlocks();
        x.category(9);
        x.item(0, 1, 0, 2);
        x.item(0, 2, 0, 4);
        x.item(0, 3, 0, 1);
        x.tells(0, 1, 2);
        return x;
    }

    private static int report(ReportBlocks x, int number, int itsX, int itsY) {
        x.tear();
        x.feed(0x09000A, 3);
        x.feed(0xC0_0000_0000_0000L | (long) number << 32 | (itsX & 0xFFFFL) << 16 | itsY & 0xFFFFL, 7);
        x.read();
        return x.report(0);
    }

    private static void trackIs(String when, ReportBlocks x, int place, int... want) {
        String[] names = {"number", "x", "y", "speed of x", "speed of y", "age", "hits"};
        for (int what = 0; what < 7; what++) {
            c.due(when + ": " + names[what], x.track(place, what), want[what]);
        }
    }

    private static ReportBlocks withTwelve() {
        ReportBlocks x = told();
        for (int number = 0; number < 12; number++) {
            c.due("comes", report(x, 100 + number, number, -number), number);
        }
        return x;
    }

    private static void twelveAtMost() {
        c.sentence("TRACKS (12 at most)");
        ReportBlocks x = withTwelve();
        c.due("twelve", x.count(1), 12);
        trackIs("the twelfth", x, 11, 111, 11, -11, 0, 0, 0, 1);
        c.due("a thirteenth", report(x, 5, 1, 1), NONE);
        c.due("twelve still", x.count(1), 12);
        c.due("there is no thirteenth", x.track(12, 0), BAD);
        trackIs("the twelfth is as it was", x, 11, 111, 11, -11, 0, 0, 0, 1);
    }

    private static void numbers() {
        c.sentence("have a NUMBER (0 .. 4095)");
        ReportBlocks x = told();
        c.due("0", report(x, 0, 1, 2), 0);
        c.due("4095", report(x, 4095, 3, 4), 1);
        c.due("2048", report(x, 2048, 3, 4), 2);
        c.due("255", report(x, 255, 3, 4), 3);
        c.due("256", report(x, 256, 3, 4), 4);
        c.due("0 of the row", x.track(0, 0), 0);
        c.due("4095 of the row", x.track(1, 0), 4095);
        c.due("2048 of the row", x.track(2, 0), 2048);
        c.due("255 of the row", x.track(3, 0), 255);
        c.due("256 of the row", x.track(4, 0), 256);
        c.due("0 again", report(x, 0, 1, 2), 0);
    }

    private static void twelveLowestBits() {
        c.sentence("A CATEGORY may tell which PLACE is the track's NUMBER (an ITEM FIXED with 2 bytes: its 12 lowest bits)");
        ReportBlocks x = told();
        c.due("0xFFFF", report(x, 0xFFFF, 1, 2), 0);
        c.due("it is 4095", x.track(0, 0), 4095);
        c.due("0x1000", report(x, 0x1000, 1, 2), 1);
        c.due("it is 0", x.track(1, 0), 0);
        c.due("0x8FFF", report(x, 0x8FFF, 1, 2), 0);
        c.due("0xF000", report(x, 0xF000, 1, 2), 1);
        c.due("0x0FFF", report(x, 0x0FFF, 1, 2), 0);
        c.due("0x0800", report(x, 0x0800, 1, 2), 2);
        c.due("it is 2048", x.track(2, 0), 2048);
        c.due("two hits more", x.track(0, 6), 3);
    }

    private static void positions() {
        c.sentence("which one its X and Y (FIXED with 4 bytes: two numbers of 16 bits with sign).");
        int[][] edges = {{0, 0}, {1, -1}, {-1, 1}, {32767, -32768}, {-32768, 32767}, {255, 256}, {-256, -257}};
        for (int[] edge : edges) {
            ReportBlocks x = told();
            c.due("comes", report(x, 7, edge[0], edge[1]), 0);
            trackIs("as it comes", x, 0, 7, edge[0], edge[1], 0, 0, 0, 1);
        }
    }

    private static void bothOrNone() {
        c.sentence("A RECORD that has both, taken: the TRACK of that NUMBER is UPDATED");
        ReportBlocks x = told();
        report(x, 7, 1, 2);
        Checks.readBlock(x, 9, 0x80, 0, 7, 0x40, 0, 9, 0, 9, 0x20, 5, 0xE0, 0, 7, 0, 3, 0, 4, 6);
        c.due("the number alone", x.report(0), NONE);
        c.due("X, Y alone", x.report(1), NONE);
        c.due("neither", x.report(2), NONE);
        trackIs("nothing changes", x, 0, 7, 1, 2, 0, 0, 0, 1);
        c.due("none came", x.count(1), 1);
        c.due("none is lost", x.count(2), 0);
        c.due("both", x.report(3), 0);
        trackIs("it is updated", x, 0, 7, 3, 4, 2, 2, 0, 2);
    }

    private static void comesAtTheEnd() {
        c.sentence("(it comes if it is not there: at the end of the row");
        ReportBlocks x = told();
        c.due("the first", report(x, 50, 1, 2), 0);
        c.due("a lower number", report(x, 40, 1, 2), 1);
        c.due("one between", report(x, 45, 1, 2), 2);
        c.due("the first again", report(x, 50, 1, 2), 0);
        c.due("the second again", report(x, 40, 1, 2), 1);
        int[] row = {50, 40, 45};
        for (int place = 0; place < 3; place++) {
            c.due("number of " + place, x.track(place, 0), row[place]);
        }
        c.due("three", x.count(1), 3);
    }

    private static void lost() {
        c.sentence("LOST, if there are 12)");
        ReportBlocks x = withTwelve();
        c.due("none is lost by the twelfth", x.count(2), 0);
        c.due("a thirteenth", report(x, 5, 1, 1), NONE);
        c.due("it is lost", x.count(2), 1);
        c.due("again", x.report(0), NONE);
        c.due("lost again", x.count(2), 2);
        c.due("one that is there is not", report(x, 111, 1, 1), 11);
        c.due("nor is the first", report(x, 100, 1, 1), 0);
        c.due("two lost", x.count(2), 2);
        x.tick(5);
        report(x, 111, 1, 1);
        x.tick(1);
        c.due("eleven are dropped", x.count(1), 1);
        c.due("there is room again", report(x, 5, 1, 1), 1);
        c.due("two lost still", x.count(2), 2);
    }

    private static void speed() {
        c.sentence("its speed becomes what X, Y are more than they were as it was UPDATED latest");
        ReportBlocks x = told();
        report(x, 7, 10, 10);
        report(x, 7, 13, 6);
        trackIs("more and less", x, 0, 7, 13, 6, 3, -4, 0, 2);
        report(x, 7, 13, 6);
        trackIs("as they were", x, 0, 7, 13, 6, 0, 0, 0, 3);
        report(x, 7, -32768, 32767);
        report(x, 7, 32767, -32768);
        trackIs("from end to end", x, 0, 7, 32767, -32768, 65535, -65535, 0, 5);
        x.tick(1);
        report(x, 7, -32768, 32767);
        trackIs("and back", x, 0, 7, -32768, 32767, -65535, 65535, 0, 6);
    }

    private static void speedAsItComes() {
        c.sentence("(0, 0, as it comes)");
        ReportBlocks x = told();
        report(x, 7, 1000, -1000);
        trackIs("as it comes", x, 0, 7, 1000, -1000, 0, 0, 0, 1);
        x.tick(1);
        report(x, 7, 1500, -1500);
        x.tick(6);
        report(x, 8, 10, 10);
        trackIs("another in its stead", x, 0, 8, 10, 10, 0, 0, 0, 1);
        report(x, 7, 5, 5);
        trackIs("as it comes again", x, 1, 7, 5, 5, 0, 0, 0, 1);
        x.tick(5);
        trackIs("it stays where it is", x, 1, 7, 5, 5, 0, 0, 5, 1);
    }

    private static void speedIsFromTheLatestUpdate() {
        c.sentence("than they were as it was UPDATED latest");
        ReportBlocks x = told();
        report(x, 7, 0, 0);
        x.tick(1);
        report(x, 7, 100, -200);
        x.tick(3);
        trackIs("it coasted", x, 0, 7, 300, -600, 100, -200, 3, 2);
        report(x, 7, 400, -500);
        trackIs("from where it was reported", x, 0, 7, 400, -500, 100, -100, 0, 3);
        report(x, 7, 410, -510);
        trackIs("from the latest one", x, 0, 7, 410, -510, 10, -10, 0, 4);
    }

    private static void byHowManyTicks() {
        c.sentence("by how many TICKS there were since");
        for (int ticks = 1; ticks <= 5; ticks++) {
            ReportBlocks x = told();
            x.tick(4);
            report(x, 7, 0, 0);
            x.tick(ticks);
            report(x, 7, 600, -60);
            trackIs("after " + ticks, x, 0, 7, 600, -60, 600 / ticks, -60 / ticks, 0, 2);
            x.tick(2);
            report(x, 7, 608, -68);
            trackIs("since the latest", x, 0, 7, 608, -68, 4, -4, 0, 3);
        }
    }

    private static void oneIfThereWereNone() {
        c.sentence("(1, if there were none)");
        ReportBlocks x = told();
        report(x, 7, 0, 0);
        report(x, 7, 9, -9);
        trackIs("none", x, 0, 7, 9, -9, 9, -9, 0, 2);
        x.tick(1);
        report(x, 7, 18, -18);
        trackIs("one", x, 0, 7, 18, -18, 9, -9, 0, 3);
        x.tick(3);
        report(x, 7, 27, -27);
        report(x, 7, 36, -36);
        trackIs("none again", x, 0, 7, 36, -36, 9, -9, 0, 5);
    }

    private static void cutOff() {
        c.sentence("cut off");
        int[][] cases = {{2, 7, -7, 3, -3}, {2, 1, -1, 0, 0}, {3, 2, -2, 0, 0}, {3, 5, -5, 1, -1},
            {4, -7, 7, -1, 1}, {5, 14, -14, 2, -2}, {5, -4, 4, 0, 0}, {5, 5, -5, 1, -1}, {3, 32767, -32768, 10922, -10922}};
        for (int[] one : cases) {
            ReportBlocks x = told();
            report(x, 7, 0, 0);
            x.tick(one[0]);
            report(x, 7, one[1], one[2]);
            trackIs("after " + one[0], x, 0, 7, one[1], one[2], one[3], one[4], 0, 2);
        }
    }

    private static void updated() {
        c.sentence("X, Y become these, AGE 0, HITS one more.");
        ReportBlocks x = told();
        report(x, 8, 3, 3);
        report(x, 7, 0, 0);
        x.tick(1);
        report(x, 7, 50, 60);
        x.tick(5);
        trackIs("age 5", x, 0, 7, 250, 300, 50, 60, 5, 2);
        report(x, 7, -1, 32767);
        trackIs("updated", x, 0, 7, -1, 32767, -10, 6541, 0, 3);
        for (int hits = 4; hits <= 20; hits++) {
            x.report(0);
        }
        trackIs("20 hits", x, 0, 7, -1, 32767, 0, 0, 0, 20);
        x.tick(5);
        c.due("its age is from then", x.track(0, 5), 5);
        c.due("it is there", x.count(1), 1);
    }

    private static void ageOneMore() {
        c.sentence("A TICK: each TRACK: AGE one more");
        ReportBlocks x = told();
        report(x, 7, 0, 0);
        report(x, 8, 0, 0);
        x.tick(1);
        report(x, 9, 0, 0);
        for (int age = 1; age <= 4; age++) {
            c.due("first", x.track(0, 5), age);
            c.due("second", x.track(1, 5), age);
            c.due("third", x.track(2, 5), age - 1);
            x.tick(1);
        }
        trackIs("age alone", x, 2, 9, 0, 0, 0, 0, 4, 1);
    }

    private static void dropped() {
        c.sentence("if it is 6 then, it is dropped");
        ReportBlocks x = told();
        report(x, 7, 0, 0);
        c.due("five ticks", x.tick(5), 0);
        c.due("age 5", x.track(0, 5), 5);
        c.due("a sixth", x.tick(1), 1);
        c.due("it is gone", x.count(1), 0);
        c.due("nothing there", x.track(0, 0), BAD);
        c.due("dropped once", x.tick(20), 0);
        c.due("dropped ever", x.count(3), 1);
        report(x, 7, 0, 0);
        x.tick(5);
        report(x, 7, 0, 0);
        c.due("five ticks more", x.tick(5), 0);
        c.due("it is there", x.count(1), 1);
        c.due("six at once", x.tick(6), 1);
    }

    private static void rowClosesUp() {
        c.sentence("(the row closes up)");
        ReportBlocks x = told();
        for (int number = 1; number <= 6; number++) {
            report(x, number, 10 * number, -number);
        }
        x.tick(3);
        for (int number : new int[] {6, 2, 4}) {
            report(x, number, 10 * number, -number);
        }
        c.due("three are dropped", x.tick(3), 3);
        c.due("three are there", x.count(1), 3);
        trackIs("2", x, 0, 2, 20, -2, 0, 0, 3, 2);
        trackIs("4", x, 1, 4, 40, -4, 0, 0, 3, 2);
        trackIs("6", x, 2, 6, 60, -6, 0, 0, 3, 2);
        c.due("no fourth", x.track(3, 0), BAD);
        c.due("a new one", report(x, 3, 30, 3), 3);
        trackIs("it is new", x, 3, 3, 30, 3, 0, 0, 0, 1);
        c.due("another", report(x, 1, 11, 1), 4);
        trackIs("it is new, too", x, 4, 1, 11, 1, 0, 0, 0, 1);
        trackIs("2 still", x, 0, 2, 20, -2, 0, 0, 3, 2);
        trackIs("4 still", x, 1, 4, 40, -4, 0, 0, 3, 2);
        trackIs("6 still", x, 2, 6, 60, -6, 0, 0, 3, 2);
        c.due("place of 6", report(x, 6, 60, -6), 2);
        c.due("all are dropped", x.tick(6), 5);
    }

    private static void coasts() {
        c.sentence("else, if AGE is 2 or more, it COASTS: its X, Y are its speed more");
        ReportBlocks x = told();
        report(x, 7, 0, 0);
        report(x, 7, 10, -3);
        x.tick(1);
        trackIs("age 1", x, 0, 7, 10, -3, 10, -3, 1, 2);
        for (int age = 2; age <= 5; age++) {
            x.tick(1);
            trackIs("age " + age, x, 0, 7, 10 * age, -3 * age, 10, -3, age, 2);
        }
        report(x, 7, 0, 0);
        x.tick(1);
        trackIs("age 1 again", x, 0, 7, 0, 0, -2, 0, 1, 3);
        x.tick(4);
        trackIs("age 5 at once", x, 0, 7, -8, 0, -2, 0, 5, 3);
    }

    private static void goesRound() {
        c.sentence("(16 bits, going round)");
        ReportBlocks x = told();
        report(x, 7, 32766, -32767);
        report(x, 7, 32767, -32768);
        x.tick(2);
        trackIs("by one", x, 0, 7, -32768, 32767, 1, -1, 2, 2);
        x.tick(1);
        trackIs("and on", x, 0, 7, -32767, 32766, 1, -1, 3, 2);
        report(x, 8, 0, 32767);
        report(x, 8, 32767, 0);
        x.tick(2);
        trackIs("by far", x, 1, 8, -2, -32767, 32767, -32767, 2, 2);
        report(x, 9, -32768, 32767);
        report(x, 9, 32767, -32768);
        x.tick(2);
        trackIs("by as far as can be", x, 1, 9, 32766, -32767, 65535, -65535, 2, 2);
        report(x, 9, 32766, -32766);
        trackIs("updated from where it was reported", x, 1, 9, 32766, -32766, 0, 1, 0, 3);
    }
}
