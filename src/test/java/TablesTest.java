/** Promises 1 to 6: a new object, category, item, part, tells, table. */
public final class TablesTest {
    private static final int BAD = ReportBlocks.BAD, STATE = ReportBlocks.STATE;
    private static final int FULL = ReportBlocks.FULL, NONE = ReportBlocks.NONE;
    private static final int LEAST = Integer.MIN_VALUE, MOST = Integer.MAX_VALUE;
    private static final Checks c = new Checks("TablesTest");

    public static void main(String[] args) {
        newObject();
        categories();
        items();
        itemsInUse();
        parts();
        partsGoWithTheirItem();
        tells();
        table();
        c.finish();
    }

    private static void newObject() {
        ReportBlocks x = new ReportBlocks();
        for (int what = 0; what <= 6; what++) {
            c.due("new: count(" + what + ")", x.count(what), 0);
        }
        c.due("new: records(0)", x.records(0), 0);
        c.due("new: records(1)", x.records(1), NONE);
        c.due("new: fault()", x.fault(), 0);
        c.due("new: read()", x.read(), STATE);
        c.due("new: tear()", x.tear(), 0);
        c.due("new: tape(0)", x.tape(0), NONE);
        c.due("new: write()", x.write(), STATE);
        c.due("new: copy(0)", x.copy(0), STATE);
        c.due("new: copy(1)", x.copy(1), BAD);
        c.due("new: report(0)", x.report(0), BAD);
        c.due("new: track(0, 0)", x.track(0, 0), BAD);
        c.due("new: has(0, 1, 0)", x.has(0, 1, 0), BAD);
        c.due("new: at(0, 1, 0)", x.at(0, 1, 0), BAD);
        c.due("new: number(0, 1, 0)", x.number(0, 1, 0), BAD);
        c.due("new: item(0, 1, 0, 1)", x.item(0, 1, 0, 1), BAD);
        c.due("new: begin(0)", x.begin(0), BAD);
    }

    private static void categories() {
        ReportBlocks x = new ReportBlocks();
        c.due("category(0)", x.category(0), BAD);
        c.due("category(256)", x.category(256), BAD);
        c.due("category(-1)", x.category(-1), BAD);
        c.due("category(least)", x.category(LEAST), BAD);
        c.due("category(most)", x.category(MOST), BAD);
        c.due("category(255)", x.category(255), 0);
        c.due("category(255) again", x.category(255), BAD);
        c.due("category(1)", x.category(1), 1);
        c.due("count(0)", x.count(0), 2);
        c.due("category(62)", x.category(62), 2);
        c.due("a fourth", x.category(63), FULL);
        c.due("a fourth that is there", x.category(62), BAD);
        c.due("a fourth of no number", x.category(256), BAD);
        c.due("count(0) full", x.count(0), 3);
        c.due("item of a fourth", x.item(3, 1, 0, 1), BAD);
        c.due("part of a fourth", x.part(3, 1, 0, 1), BAD);
        c.due("tells of a fourth", x.tells(3, 1, 2), BAD);
        c.due("table of a fourth", x.table(3, 1, 0), BAD);
        c.due("begin of a fourth", x.begin(3), BAD);
        c.due("item of the third", x.item(2, 1, 0, 1), NONE);
        c.due("not of the second", x.table(1, 1, 0), NONE);
        c.due("of the third", x.table(2, 1, 0), 0);
    }

    private static void items() {
        ReportBlocks x = new ReportBlocks();
        x.category(48);
        c.due("fixed 1", x.item(0, 1, 0, 1), NONE);
        c.due("fixed 8", x.item(0, 1, 0, 8), 0);
        c.due("going", x.item(0, 1, 1, -77), 0);
        c.due("again 1", x.item(0, 1, 2, 1), 1);
        c.due("again 4", x.item(0, 1, 2, 4), 2);
        c.due("made", x.item(0, 1, 3, 99), 2);
        c.due("none", x.item(0, 1, -1, LEAST), 3);
        c.due("none again", x.item(0, 1, -1, 0), NONE);
        c.due("place 21", x.item(0, 21, 0, 1), NONE);
        int[][] bad = {{-1, 1, 0, 1}, {1, 1, 0, 1}, {LEAST, 1, 0, 1}, {MOST, 1, 0, 1}, {0, 0, 0, 1},
            {0, 22, 0, 1}, {0, -1, 0, 1}, {0, LEAST, 0, 1}, {0, MOST, 0, 1}, {0, 2, -2, 1},
            {0, 2, 4, 1}, {0, 2, LEAST, 1}, {0, 2, MOST, 1}, {0, 2, 0, 0}, {0, 2, 0, 9},
            {0, 2, 0, -1}, {0, 2, 2, 0}, {0, 2, 2, 5}, {0, 2, 2, MOST}, {0, 2, 0, LEAST}};
        for (int[] b : bad) {
            c.due("item of bad numbers", x.item(b[0], b[1], b[2], b[3]), BAD);
        }
        c.due("nothing has changed", x.table(0, 2, 0), NONE);
    }

    private static void itemsInUse() {
        ReportBlocks x = Checks.usual();
        x.category(7);
        x.item(1, 1, 0, 1);
        Checks.readBlock(x, 48, 0x80, 1, 2);
        c.due("item of the records' category", x.item(0, 8, 0, 1), STATE);
        c.due("none at it", x.item(0, 8, -1, 1), STATE);
        c.due("bad ahead of state", x.item(0, 8, 0, 9), BAD);
        c.due("bad place ahead of state", x.item(0, 22, 0, 1), BAD);
        c.due("part of the records' category", x.part(0, 5, 1, 1), STATE);
        c.due("part, bad ahead of state", x.part(0, 5, 1, 5), BAD);
        c.due("part of no made one ahead of state", x.part(0, 1, 1, 1), BAD);
        c.due("nothing has changed", x.table(0, 8, 0), NONE);
        c.due("no part has changed", x.table(0, 5, 3), 0);
        c.due("item of another", x.item(1, 2, 3, 0), NONE);
        c.due("part of another", x.part(1, 2, 0, 1), 0);
        c.due("one is begun", x.begin(1), 1);
        c.due("item of the begun one's category", x.item(1, 3, 0, 1), STATE);
        c.due("part of the begun one's category", x.part(1, 2, 0, 2), STATE);
        c.due("records of another category", Checks.readBlock(x, 7, 0x80, 1), 1);
        c.due("item of the first is free", x.item(0, 8, 0, 1), NONE);
        c.due("begun for the first", x.begin(0), 1);
        c.due("item of the first is not", x.item(0, 8, 0, 2), STATE);
        c.due("nor of the records' one", x.item(1, 8, 0, 2), STATE);
        c.due("a read with a fault", Checks.readBlock(x, 9, 0x80, 1), -100);
        c.due("the records stay in use", x.item(1, 8, 0, 2), STATE);
    }

    private static void parts() {
        ReportBlocks x = new ReportBlocks();
        x.category(48);
        x.item(0, 5, 3, 0);
        x.item(0, 6, 0, 1);
        x.item(0, 7, 1, 1);
        x.item(0, 8, 2, 1);
        c.due("part 0", x.part(0, 5, 0, 4), 0);
        c.due("part 0 other", x.part(0, 5, 0, 1), 4);
        c.due("part 13", x.part(0, 5, 13, 2), 0);
        c.due("part 13 none", x.part(0, 5, 13, 0), 2);
        c.due("part 13 none again", x.part(0, 5, 13, 0), 0);
        int[][] bad = {{1, 5, 0, 1}, {-1, 5, 0, 1}, {0, 0, 0, 1}, {0, 22, 0, 1}, {0, 4, 0, 1},
            {0, 6, 0, 1}, {0, 7, 0, 1}, {0, 8, 0, 1}, {0, 5, -1, 1}, {0, 5, 14, 1}, {0, 5, 1, -1},
            {0, 5, 1, 5}, {LEAST, MOST, MOST, MOST}, {0, MOST, 0, 1}, {0, 5, MOST, 1},
            {0, 5, LEAST, 1}, {0, 5, 1, MOST}, {0, LEAST, 0, 1}};
        for (int[] b : bad) {
            c.due("part of bad numbers", x.part(b[0], b[1], b[2], b[3]), BAD);
        }
        c.due("part 1 is as it was", x.table(0, 5, 3), 0);
    }

    private static void partsGoWithTheirItem() {
        ReportBlocks x = new ReportBlocks();
        x.category(48);
        x.item(0, 5, 3, 0);
        x.part(0, 5, 0, 4);
        x.part(0, 5, 13, 4);
        x.item(0, 5, 0, 2);
        c.due("no part of a fixed one", x.table(0, 5, 2), 0);
        x.item(0, 5, 3, 0);
        c.due("a new made one has no part 0", x.table(0, 5, 2), 0);
        c.due("a new made one has no part 13", x.table(0, 5, 15), 0);
        x.part(0, 5, 1, 3);
        c.due("a made one again", x.item(0, 5, 3, 0), 3);
        c.due("it has no part 1", x.table(0, 5, 3), 0);
    }

    private static void tells() {
        ReportBlocks x = Checks.usual();
        c.due("not told: report", Checks.readBlock(x, 48, 0xC0, 0, 9, 0, 1, 0, 2), 1);
        c.due("a record that tells none", x.report(0), NONE);
        c.due("tells, with records there", x.tells(0, 1, 2), 1);
        c.due("the record tells now", x.report(0), 0);
        int[][] bad = {{0, 2, 1}, {0, 1, 1}, {0, 2, 2}, {0, 1, 3}, {0, 3, 2}, {0, 1, 4}, {0, 4, 2},
            {0, 5, 2}, {0, 1, 15}, {0, 6, 2}, {0, 1, 6}, {0, 0, 2}, {0, 22, 2}, {0, 1, 0},
            {0, 1, 22}, {1, 1, 2}, {-1, 1, 2}, {0, 21, 2}, {0, 1, 9}, {LEAST, 1, 2},
            {0, MOST, 2}, {0, 1, LEAST}};
        for (int[] b : bad) {
            c.due("tells of bad numbers", x.tells(b[0], b[1], b[2]), BAD);
        }
        c.due("told as it was", x.report(0), 0);
        retold();
        noLongerSo();
    }

    private static void retold() {
        ReportBlocks x = new ReportBlocks();
        x.category(48);
        x.item(0, 1, 0, 2);
        x.item(0, 2, 0, 2);
        x.item(0, 3, 0, 4);
        x.item(0, 4, 0, 4);
        x.tells(0, 1, 3);
        Checks.readBlock(x, 48, 0xF0, 0, 1, 0, 2, 0, 3, 0, 4, 0, 5, 0, 6);
        x.report(0);
        c.due("told by 1", x.track(0, 0), 1);
        c.due("told by 3", x.track(0, 1), 3);
        c.due("told anew", x.tells(0, 2, 4), 1);
        c.due("another track", x.report(0), 1);
        c.due("told by 2", x.track(1, 0), 2);
        c.due("told by 4", x.track(1, 1), 5);
    }

    private static void noLongerSo() {
        ReportBlocks x = Checks.usual();
        x.category(7);
        x.item(1, 1, 0, 1);
        x.tells(0, 1, 2);
        c.due("its number has one byte", x.item(0, 1, 0, 1), 0);
        Checks.readBlock(x, 48, 0xC0, 9, 0, 1, 0, 2);
        c.due("it tells none", x.report(0), NONE);
        c.due("that is no lost one", x.count(2), 0);
        Checks.readBlock(x, 7, 0x80, 1);
        x.item(0, 1, 0, 2);
        x.item(0, 2, 2, 4);
        Checks.readBlock(x, 48, 0xC0, 0, 9, 1, 0, 1, 0, 2);
        c.due("its position is an again", x.report(0), NONE);
        Checks.readBlock(x, 7, 0x80, 1);
        x.item(0, 2, 0, 4);
        Checks.readBlock(x, 48, 0xC0, 0, 9, 0, 1, 0, 2);
        c.due("it stays told", x.report(0), 0);
        sameBytesOfAnotherKind();
    }

    // Items that have as many bytes as those told, but are not FIXED.
    private static void sameBytesOfAnotherKind() {
        ReportBlocks x = Checks.usual();
        x.tells(0, 1, 2);
        x.item(0, 2, 2, 3);
        Checks.readBlock(x, 48, 0xC0, 0, 9, 1, 0, 1, 0);
        c.due("an again of four bytes", x.report(0), NONE);
        ReportBlocks y = Checks.usual();
        y.tells(0, 1, 2);
        y.item(0, 1, 1, 0);
        Checks.readBlock(y, 48, 0xC0, 1, 2, 0, 1, 0, 2);
        c.due("a going one of two bytes", y.report(0), NONE);
        ReportBlocks z = Checks.usual();
        z.tells(0, 1, 2);
        z.item(0, 1, -1, 0);
        Checks.readBlock(z, 48, 0x40, 0, 1, 0, 2);
        c.due("none at all", z.report(0), NONE);
        c.due("no track came", x.count(1) + y.count(1) + z.count(1), 0);
    }

    private static void table() {
        ReportBlocks x = Checks.usual();
        int[] kinds = {0, 0, 1, 2, 3, NONE, NONE, NONE, 0, NONE, NONE, NONE, NONE, NONE, 2, NONE,
            NONE, NONE, NONE, NONE, 0};
        int[] sizes = {2, 4, 0, 2, 0, 0, 0, 0, 8, 0, 0, 0, 0, 0, 4, 0, 0, 0, 0, 0, 1};
        int[] parts = {1, 0, 3, 0, 0, 0, 0, 0, 2, 0, 0, 0, 0, 4};
        for (int place = 1; place <= 21; place++) {
            c.due("kind of " + place, x.table(0, place, 0), kinds[place - 1]);
            c.due("n of " + place, x.table(0, place, 1), sizes[place - 1]);
            for (int part = 0; part < 14; part++) {
                c.due("part " + part + " of " + place, x.table(0, place, 2 + part),
                    place == 5 ? parts[part] : 0);
            }
        }
        x.item(0, 3, 1, 6);
        x.item(0, 6, 3, 6);
        c.due("n of a going one", x.table(0, 3, 1), 0);
        c.due("n of a made one", x.table(0, 6, 1), 0);
        x.item(0, 1, -1, 4);
        c.due("kind of one taken away", x.table(0, 1, 0), NONE);
        c.due("n of one taken away", x.table(0, 1, 1), 0);
        int[][] bad = {{1, 1, 0}, {-1, 1, 0}, {0, 0, 0}, {0, 22, 0}, {0, 1, -1}, {0, 1, 16},
            {0, 1, LEAST}, {0, 1, MOST}, {0, LEAST, 0}, {0, MOST, 0}, {3, 1, 0}, {MOST, 1, 0}};
        for (int[] b : bad) {
            c.due("table of bad numbers", x.table(b[0], b[1], b[2]), BAD);
        }
    }
}
