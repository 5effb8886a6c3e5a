/** Each sentence of promises 1 to 6 that names a boundary. */
public final class EdgesOfTablesTest {
    private static final int BAD = ReportBlocks.BAD, STATE = ReportBlocks.STATE;
    private static final int FULL = ReportBlocks.FULL, NONE = ReportBlocks.NONE;
    private static final int LEAST = Integer.MIN_VALUE, MOST = Integer.MAX_VALUE;
    private static final int[] ANY = {LEAST, -1, 0, 9, MOST};
    private static final Checks c = new Checks("EdgesOfTablesTest");

    public static void main(String[] args) {
        newWithoutCategories();
        newWithoutRecords();
        newWithoutTracks();
        newTapeIsEmpty();
        placeOfACategory();
        categoryThatIsThere();
        categoriesFull();
        sizesThatAreLookedAt();
        noItem();
        kindBefore();
        itemBad();
        itemOfTheRecords();
        itemOfTheOneBegun();
        sizesOfParts();
        partThatIsNone();
        sizeBefore();
        partBad();
        partState();
        tells();
        tellsByWhatIsNotAsTold();
        stayTold();
        tableKind();
        tableSize();
        tableParts();
        tableBad();
        c.finish();
    }

    private static ReportBlocks oneCategory() {
        ReportBlocks x = new ReportBlocks();
        x.category(9);
        return x;
    }

    private static void faultIs(String when, ReportBlocks x, int fault, int place, int... rest) {
        c.due(when + ": read()", Checks.readBlock(x, 9, rest), -100 - place);
        c.due(when + ": fault()", x.fault(), fault);
    }

    private static void newWithoutCategories() {
        c.sentence("ReportBlocks()`: No CATEGORIES");
        ReportBlocks x = new ReportBlocks();
        c.due("count(0)", x.count(0), 0);
        c.due("item", x.item(0, 1, 0, 1), BAD);
        c.due("part", x.part(0, 1, 0, 1), BAD);
        c.due("tells", x.tells(0, 1, 2), BAD);
        c.due("table", x.table(0, 1, 0), BAD);
        c.due("begin", x.begin(0), BAD);
        faultIs("a block", x, 1, 0, 0x80, 1);
        c.due("the first one's place", x.category(9), 0);
        for (int place = 1; place <= 21; place++) {
            c.due("its table is empty at " + place, x.table(0, place, 0), NONE);
        }
        c.due("it tells none", x.tells(0, 1, 2), BAD);
    }

    private static void newWithoutRecords() {
        c.sentence("No CATEGORIES, no RECORDS");
        ReportBlocks x = new ReportBlocks();
        c.due("records(0)", x.records(0), 0);
        c.due("records(1)", x.records(1), NONE);
        c.due("has", x.has(0, 1, 0), BAD);
        c.due("at", x.at(0, 1, 0), BAD);
        c.due("number", x.number(0, 1, 0), BAD);
        c.due("copy", x.copy(0), STATE);
        c.due("report", x.report(0), BAD);
        c.due("blocks read", x.count(6), 0);
        c.due("no fault", x.fault(), 0);
        c.due("set", x.set(1), STATE);
        c.due("take", x.take(1), STATE);
        c.due("write", x.write(), STATE);
        x.category(9);
        c.due("they are not of a category that comes", x.records(1), NONE);
        c.due("its items may be put", x.item(0, 1, 0, 1), NONE);
    }

    private static void newWithoutTracks() {
        c.sentence("no RECORDS, no TRACKS");
        ReportBlocks x = new ReportBlocks();
        for (int what = 0; what < 7; what++) {
            c.due("track(0, " + what + ")", x.track(0, what), BAD);
        }
        c.due("tracks", x.count(1), 0);
        c.due("lost", x.count(2), 0);
        c.due("dropped", x.count(3), 0);
        c.due("ticks", x.count(4), 0);
        c.due("a tick drops none", x.tick(20), 0);
    }

    private static void newTapeIsEmpty() {
        c.sentence("THE TAPE is empty.");
        ReportBlocks x = new ReportBlocks();
        c.tapeIs("new", x);
        c.due("read()", x.read(), STATE);
        c.due("tear()", x.tear(), 0);
        c.due("a first byte", x.feed(7, 1), 1);
    }

    private static void placeOfACategory() {
        c.sentence("A CATEGORY of a number: its place 0 .. 2.");
        ReportBlocks x = new ReportBlocks();
        c.due("first", x.category(255), 0);
        c.due("second", x.category(1), 1);
        c.due("third", x.category(128), 2);
        c.due("item of the third", x.item(2, 1, 0, 1), NONE);
        c.due("item of a fourth", x.item(3, 1, 0, 1), BAD);
        c.due("item of one below", x.item(-1, 1, 0, 1), BAD);
        c.due("the third's number", Checks.readBlock(x, 128, 0x80, 1), 1);
        c.due("the third's place", x.records(1), 2);
    }

    private static void categoryThatIsThere() {
        c.sentence("BAD: also one that is there");
        ReportBlocks x = new ReportBlocks();
        c.due("a first", x.category(9), 0);
        c.due("the first again", x.category(9), BAD);
        c.due("how many", x.count(0), 1);
        c.due("a second", x.category(10), 1);
        c.due("the first again", x.category(9), BAD);
        c.due("the second again", x.category(10), BAD);
        c.due("a third", x.category(11), 2);
        c.due("the third again", x.category(11), BAD);
        c.due("the first again", x.category(9), BAD);
        c.due("how many", x.count(0), 3);
    }

    private static void categoriesFull() {
        c.sentence("BAD: also one that is there; FULL.");
        ReportBlocks x = new ReportBlocks();
        x.category(9);
        x.category(10);
        c.due("a third", x.category(11), 2);
        c.due("a fourth", x.category(12), FULL);
        c.due("and again", x.category(1), FULL);
        c.due("how many", x.count(0), 3);
        c.due("one that is there", x.category(10), BAD);
    }

    private static void sizesThatAreLookedAt() {
        c.sentence("(n of FIXED, AGAIN; else not looked at");
        ReportBlocks x = oneCategory();
        for (int n : ANY) {
            if (n != 0) {
                c.due("FIXED of " + n, x.item(0, 1, 0, n), BAD);
            }
            c.due("AGAIN of " + n, x.item(0, 1, 2, n), BAD);
        }
        c.due("FIXED of 0", x.item(0, 1, 0, 0), BAD);
        c.due("AGAIN of 5", x.item(0, 1, 2, 5), BAD);
        c.due("nothing came", x.table(0, 1, 0), NONE);
        for (int n : ANY) {
            x.item(0, 1, -1, 0);
            c.due("GOING of " + n, x.item(0, 1, 1, n), NONE);
            c.due("its n", x.table(0, 1, 1), 0);
            c.due("MADE of " + n, x.item(0, 1, 3, n), 1);
            c.due("its n", x.table(0, 1, 1), 0);
            c.due("none of " + n, x.item(0, 1, -1, n), 3);
        }
        c.due("FIXED of 8", x.item(0, 1, 0, 8), NONE);
        c.due("AGAIN of 4", x.item(0, 1, 2, 4), 0);
    }

    private static void noItem() {
        c.sentence("-1: none)");
        ReportBlocks x = oneCategory();
        c.due("none where there is none", x.item(0, 1, -1, 0), NONE);
        c.due("FIXED", x.item(0, 1, 0, 2), NONE);
        c.due("none", x.item(0, 1, -1, 0), 0);
        c.due("its kind", x.table(0, 1, 0), NONE);
        c.due("its n", x.table(0, 1, 1), 0);
        faultIs("its bit", x, 5, 3, 0x80, 1, 2);
        x.item(0, 2, 3, 0);
        x.part(0, 2, 0, 1);
        c.due("none for a made one", x.item(0, 2, -1, 0), 3);
        c.due("its part", x.table(0, 2, 2), 0);
        c.due("part of none", x.part(0, 2, 0, 1), BAD);
        c.due("-2 is no kind", x.item(0, 2, -2, 1), BAD);
        c.due("-9 is no kind", x.item(0, 2, NONE, 1), BAD);
        c.due("4 is no kind", x.item(0, 2, 4, 1), BAD);
        c.due("there is none still", x.table(0, 2, 0), NONE);
    }

    private static void kindBefore() {
        c.sentence("what KIND was there (NONE).");
        ReportBlocks x = oneCategory();
        int before = NONE;
        for (int kind : new int[] {0, 1, 2, 3, 3, 2, 1, 0, 0, -1, -1, 3, -1, 2}) {
            c.due("item of kind " + kind, x.item(0, 21, kind, 4), before);
            before = kind == -1 ? NONE : kind;
        }
        c.due("another place", x.item(0, 20, 1, 0), NONE);
    }

    private static void itemBad() {
        c.sentence("what KIND was there (NONE). BAD");
        ReportBlocks x = oneCategory();
        x.category(10);
        int[][] bad = {{2, 1, 0, 1}, {3, 1, 0, 1}, {-1, 1, 0, 1}, {LEAST, 1, 0, 1}, {MOST, 1, 0, 1}, {0, 0, 0, 1},
            {0, 22, 0, 1}, {0, -1, 0, 1}, {0, MOST, 0, 1}, {0, LEAST, 0, 1}, {0, 1, -2, 1}, {0, 1, 4, 1},
            {0, 1, MOST, 1}, {0, 1, LEAST, 1}, {0, 1, 0, 0}, {0, 1, 0, 9}, {0, 1, 2, 0}, {0, 1, 2, 5},
            {0, 22, -1, 0}, {2, 1, -1, 0}, {0, 0, 1, 0}, {0, 0, 3, 0}};
        for (int[] b : bad) {
            c.due(java.util.Arrays.toString(b), x.item(b[0], b[1], b[2], b[3]), BAD);
        }
        for (int place = 1; place <= 21; place++) {
            c.due("nothing came to the first", x.table(0, place, 0), NONE);
            c.due("nothing came to the second", x.table(1, place, 0), NONE);
        }
    }

    private static void itemOfTheRecords() {
        c.sentence("STATE: the RECORDS that are there are of it");
        ReportBlocks x = oneCategory();
        x.category(10);
        x.item(0, 1, 0, 1);
        x.item(1, 1, 0, 1);
        Checks.readBlock(x, 10, 0x80);
        c.due("none are there after a fault", x.item(1, 2, 0, 1), NONE);
        c.due("read()", Checks.readBlock(x, 9, 0x80, 1), 1);
        c.due("of theirs", x.item(0, 1, 0, 2), STATE);
        c.due("of theirs, where there is none", x.item(0, 2, 0, 2), STATE);
        c.due("of theirs, as it is", x.item(0, 1, 0, 1), STATE);
        c.due("of theirs, none", x.item(0, 1, -1, 0), STATE);
        c.due("it is as it was", x.table(0, 1, 1), 1);
        c.due("of another", x.item(1, 1, 0, 2), 0);
        c.due("a fault", Checks.readBlock(x, 10, 0x80, 1), -105);
        c.due("of theirs still", x.item(0, 1, 0, 2), STATE);
        c.due("read() of another", Checks.readBlock(x, 10, 0x80, 1, 2), 1);
        c.due("no longer theirs", x.item(0, 1, 0, 2), 0);
        c.due("of theirs now", x.item(1, 1, 0, 1), STATE);
        x.tear();
        x.tick(20);
        c.due("they stay there", x.item(1, 1, 0, 1), STATE);
    }

    private static void itemOfTheOneBegun() {
        c.sentence("or one of one's own is begun for it.");
        ReportBlocks x = oneCategory();
        x.category(10);
        x.item(0, 1, 0, 1);
        x.begin(0);
        c.due("of the one begun", x.item(0, 1, 0, 2), STATE);
        c.due("of it, where there is none", x.item(0, 21, 0, 2), STATE);
        c.due("of another", x.item(1, 1, 0, 2), NONE);
        x.begin(2);
        c.due("it is begun still", x.item(0, 1, 0, 2), STATE);
        x.begin(1);
        c.due("no longer begun", x.item(0, 1, 0, 2), 0);
        c.due("of the other begun", x.item(1, 1, 0, 2), STATE);
        x.feed(0x0102, 2);
        x.set(1);
        x.write();
        c.due("written, it is begun still", x.item(1, 1, 0, 2), STATE);
        x.read();
        x.begin(0);
        c.due("of the records", x.item(1, 1, 0, 2), STATE);
        c.due("of the one begun, too", x.item(0, 1, 0, 2), STATE);
    }

    private static void sizesOfParts() {
        c.sentence("A PART (0 .. 13) of a MADE ITEM has n bytes (1 .. 4");
        ReportBlocks x = oneCategory();
        x.item(0, 1, 3, 0);
        for (int part = 0; part < 14; part++) {
            c.due("part " + part, x.part(0, 1, part, 1 + part % 4), 0);
        }
        for (int part = 0; part < 14; part++) {
            c.due("bytes of part " + part, x.table(0, 1, 2 + part), 1 + part % 4);
        }
        c.due("part 13 of 2 is read", Checks.readBlock(x, 9, 0x80, 1, 2, 1, 2), 1);
        c.due("its number", x.number(0, 1, 13), 0x0102);
        c.due("part 0 of 1 is read", Checks.readBlock(x, 9, 0x80, 0x80, 5), 1);
        c.due("part 3 of 4 is read", Checks.readBlock(x, 9, 0x80, 0x10, 5, 6, 7, 8), 1);
        c.due("its number", x.number(0, 1, 3), 0x05060708);
    }

    private static void partThatIsNone() {
        c.sentence("0: it is none)");
        ReportBlocks x = oneCategory();
        x.item(0, 1, 3, 0);
        c.due("none where there is none", x.part(0, 1, 0, 0), 0);
        x.part(0, 1, 0, 4);
        x.part(0, 1, 1, 2);
        c.due("none", x.part(0, 1, 0, 0), 4);
        c.due("its bytes", x.table(0, 1, 2), 0);
        c.due("the other's", x.table(0, 1, 3), 2);
        faultIs("its bit", x, 5, 4, 0x80, 0x80, 1, 2, 3, 4);
        c.due("the other's bit", Checks.readBlock(x, 9, 0x80, 0x40, 1, 2), 1);
    }

    private static void sizeBefore() {
        c.sentence("what it had. BAD; STATE (likewise).");
        ReportBlocks x = oneCategory();
        x.item(0, 21, 3, 0);
        int before = 0;
        for (int n : new int[] {4, 4, 1, 0, 0, 3, 2, 0}) {
            c.due("part of " + n, x.part(0, 21, 13, n), before);
            before = n;
        }
        x.part(0, 21, 13, 4);
        x.item(0, 21, 3, 0);
        c.due("a new item has none", x.part(0, 21, 13, 1), 0);
        c.due("of another part", x.part(0, 21, 12, 1), 0);
    }

    private static void partBad() {
        c.sentence("what it had. BAD");
        ReportBlocks x = oneCategory();
        x.item(0, 1, 0, 4);
        x.item(0, 2, 1, 0);
        x.item(0, 3, 2, 4);
        x.item(0, 4, 3, 0);
        x.part(0, 4, 0, 2);
        int[][] bad = {{1, 4, 0, 1}, {-1, 4, 0, 1}, {MOST, 4, 0, 1}, {0, 0, 0, 1}, {0, 22, 0, 1}, {0, 1, 0, 1},
            {0, 2, 0, 1}, {0, 3, 0, 1}, {0, 5, 0, 1}, {0, 5, 0, 0}, {0, 1, 0, 0}, {0, 4, -1, 1}, {0, 4, 14, 1},
            {0, 4, MOST, 1}, {0, 4, LEAST, 1}, {0, 4, 0, -1}, {0, 4, 0, 5}, {0, 4, 0, MOST}, {0, 4, 0, LEAST}};
        for (int[] b : bad) {
            c.due(java.util.Arrays.toString(b), x.part(b[0], b[1], b[2], b[3]), BAD);
        }
        for (int place = 1; place <= 5; place++) {
            c.due("part 0 of " + place, x.table(0, place, 2), place == 4 ? 2 : 0);
        }
    }

    private static void partState() {
        c.sentence("BAD; STATE (likewise).");
        ReportBlocks x = oneCategory();
        x.category(10);
        for (int category = 0; category < 2; category++) {
            x.item(category, 1, 3, 0);
            x.part(category, 1, 0, 1);
        }
        c.due("read()", Checks.readBlock(x, 9, 0x80, 0x80, 1), 1);
        c.due("of the records", x.part(0, 1, 0, 2), STATE);
        c.due("of the records, none", x.part(0, 1, 0, 0), STATE);
        c.due("of the records, another", x.part(0, 1, 13, 2), STATE);
        c.due("it is as it was", x.table(0, 1, 2), 1);
        c.due("of another", x.part(1, 1, 0, 2), 1);
        x.begin(1);
        c.due("of the one begun", x.part(1, 1, 0, 3), STATE);
        c.due("read() of the other", Checks.readBlock(x, 10, 0x80, 0x80, 1, 2), 1);
        c.due("no longer of the records", x.part(0, 1, 0, 2), 1);
        x.begin(0);
        c.due("of the one begun now", x.part(0, 1, 0, 3), STATE);
        c.due("of the records now", x.part(1, 1, 0, 3), STATE);
    }

    /** Category 9: 1 and 21 FIXED 2, 2 and 20 FIXED 4. */
    private static ReportBlocks tellable() {
        ReportBlocks x = oneCategory();
        x.item(0, 1, 0, 2);
        x.item(0, 21, 0, 2);
        x.item(0, 2, 0, 4);
        x.item(0, 20, 0, 4);
        return x;
    }

    private static void tells() {
        c.sentence("A CATEGORY tells its track's NUMBER by one PLACE, X, Y by another one: 1.");
        ReportBlocks x = tellable();
        int[] rest = {0xC1, 1, 6, 0, 7, 0, 1, 0, 2, 0, 3, 0, 4, 0, 8};
        Checks.readBlock(x, 9, rest);
        c.due("not told", x.report(0), NONE);
        c.due("tells()", x.tells(0, 1, 2), 1);
        c.due("report()", x.report(0), 0);
        c.due("its number", x.track(0, 0), 7);
        c.due("its Y", x.track(0, 2), 2);
        c.due("by the last place, though records are there", x.tells(0, 21, 20), 1);
        c.due("report()", x.report(0), 1);
        c.due("its number", x.track(1, 0), 8);
        c.due("its Y", x.track(1, 2), 4);
        x.begin(0);
        c.due("though one is begun", x.tells(0, 21, 2), 1);
        c.due("again", x.tells(0, 21, 2), 1);
        c.due("report()", x.report(0), 1);
        c.due("its Y", x.track(1, 2), 2);
    }

    private static void tellsByWhatIsNotAsTold() {
        c.sentence("BAD: also ITEMS that are not as told.");
        ReportBlocks x = tellable();
        x.tells(0, 1, 2);
        int[][] others = {{0, 1}, {0, 3}, {0, 8}, {1, 0}, {2, 2}, {2, 4}, {2, 1}, {3, 0}, {-1, 0}};
        for (int[] other : others) {
            x.item(0, 5, other[0], other[1]);
            String of = "kind " + other[0] + " of " + other[1];
            c.due("number by " + of, x.tells(0, 5, 20), BAD);
            c.due("X, Y by " + of, x.tells(0, 21, 5), BAD);
        }
        c.due("the wrong way round", x.tells(0, 20, 21), BAD);
        c.due("one place, of 2", x.tells(0, 21, 21), BAD);
        c.due("one place, of 4", x.tells(0, 20, 20), BAD);
        c.due("no place 0", x.tells(0, 0, 20), BAD);
        c.due("no place 22", x.tells(0, 22, 20), BAD);
        c.due("X, Y by no place 0", x.tells(0, 21, 0), BAD);
        c.due("X, Y by no place 22", x.tells(0, 21, 22), BAD);
        c.due("no category", x.tells(1, 21, 20), BAD);
        c.due("no category below", x.tells(-1, 21, 20), BAD);
        Checks.readBlock(x, 9, 0xC1, 1, 6, 0, 7, 0, 1, 0, 2, 0, 3, 0, 4, 0, 8);
        c.due("told as before", x.report(0), 0);
        c.due("its number", x.track(0, 0), 7);
        c.due("its Y", x.track(0, 2), 2);
    }

    private static void stayTold() {
        c.sentence("(They stay told; a RECORD whose ITEMS are no longer so tells none.)");
        ReportBlocks x = tellable();
        x.category(10);
        x.item(1, 1, 0, 1);
        x.tells(0, 1, 2);
        int[][] others = {{0, 1}, {0, 3}, {1, 0}, {2, 1}, {3, 0}, {-1, 0}};
        for (int[] other : others) {
            x.item(0, 1, other[0], other[1]);
            x.part(0, 1, 0, 1);
            c.due("number of kind " + other[0], readWithNumber(x, other[0], other[1]), NONE);
            Checks.readBlock(x, 10, 0x80, 1);
            x.item(0, 1, 0, 2);
        }
        c.due("so again", x.item(0, 2, 0, 5), 0);
        Checks.readBlock(x, 9, 0xC0, 0, 7, 0, 1, 0, 2, 0);
        c.due("X, Y of 5 bytes", x.report(0), NONE);
        Checks.readBlock(x, 10, 0x80, 1);
        x.item(0, 2, 2, 3);
        Checks.readBlock(x, 9, 0xC0, 0, 7, 1, 0, 1, 2);
        c.due("X, Y of an AGAIN of 4 bytes", x.report(0), NONE);
        Checks.readBlock(x, 10, 0x80, 1);
        x.item(0, 2, 1, 0);
        Checks.readBlock(x, 9, 0xC0, 0, 7, 1, 1, 1, 2);
        c.due("X, Y of a GOING of 4 bytes", x.report(0), NONE);
        Checks.readBlock(x, 10, 0x80, 1);
        c.due("none came", x.count(1), 0);
        c.due("none is lost", x.count(2), 0);
        x.item(0, 2, 0, 4);
        Checks.readBlock(x, 9, 0xC0, 0, 7, 0, 1, 0, 2);
        c.due("they stayed told", x.report(0), 0);
        c.due("its number", x.track(0, 0), 7);
    }

    // Two bytes at place 1 of whatever kind, if that kind can have two.
    private static int readWithNumber(ReportBlocks x, int kind, int n) {
        if (kind == 0 && n == 1) {
            Checks.readBlock(x, 9, 0xC0, 7, 0, 1, 0, 2);
        } else if (kind == 0) {
            Checks.readBlock(x, 9, 0xC0, 0, 0, 7, 0, 1, 0, 2);
        } else if (kind == 3) {
            Checks.readBlock(x, 9, 0xC0, 0x80, 7, 0, 1, 0, 2);
        } else if (kind == -1) {
            Checks.readBlock(x, 9, 0x40, 0, 1, 0, 2);
        } else {
            Checks.readBlock(x, 9, 0xC0, 1, 6, 0, 1, 0, 2);
        }
        c.due("it is read", x.fault(), 0);
        return x.report(0);
    }

    private static void tableKind() {
        c.sentence("Of an ITEM: 0 its KIND (NONE)");
        ReportBlocks x = oneCategory();
        for (int kind = 0; kind < 4; kind++) {
            x.item(0, 18 + kind, kind, 1);
            c.due("kind " + kind, x.table(0, 18 + kind, 0), kind);
        }
        c.due("none", x.table(0, 17, 0), NONE);
        c.due("none at 1", x.table(0, 1, 0), NONE);
        x.item(0, 21, -1, 0);
        c.due("none any more", x.table(0, 21, 0), NONE);
    }

    private static void tableSize() {
        c.sentence("1 n (0 of GOING, MADE, none)");
        ReportBlocks x = oneCategory();
        x.item(0, 1, 0, 8);
        x.item(0, 2, 2, 4);
        c.due("FIXED 8", x.table(0, 1, 1), 8);
        c.due("AGAIN 4", x.table(0, 2, 1), 4);
        c.due("none", x.table(0, 3, 1), 0);
        x.item(0, 1, 1, 8);
        x.item(0, 2, 3, 4);
        c.due("GOING", x.table(0, 1, 1), 0);
        c.due("MADE", x.table(0, 2, 1), 0);
        x.item(0, 1, 0, 1);
        x.item(0, 2, 2, 1);
        c.due("FIXED 1", x.table(0, 1, 1), 1);
        c.due("AGAIN 1", x.table(0, 2, 1), 1);
        x.item(0, 1, -1, 8);
        c.due("none any more", x.table(0, 1, 1), 0);
    }

    private static void tableParts() {
        c.sentence("2 .. 15 bytes of PART 0 .. 13 (0).");
        ReportBlocks x = oneCategory();
        x.item(0, 5, 3, 0);
        x.item(0, 6, 0, 8);
        x.part(0, 5, 0, 4);
        x.part(0, 5, 13, 3);
        for (int what = 2; what <= 15; what++) {
            c.due("MADE " + what, x.table(0, 5, what), what == 2 ? 4 : what == 15 ? 3 : 0);
            c.due("FIXED " + what, x.table(0, 6, what), 0);
            c.due("none " + what, x.table(0, 4, what), 0);
        }
    }

    private static void tableBad() {
        c.sentence("2 .. 15 bytes of PART 0 .. 13 (0). BAD.");
        ReportBlocks x = oneCategory();
        x.item(0, 1, 3, 0);
        x.item(0, 21, 3, 0);
        int[][] bad = {{1, 1, 0}, {2, 1, 0}, {3, 1, 0}, {-1, 1, 0}, {LEAST, 1, 0}, {MOST, 1, 0}, {0, 0, 0}, {0, 22, 0},
            {0, -1, 0}, {0, LEAST, 0}, {0, MOST, 0}, {0, 1, -1}, {0, 1, 16}, {0, 21, 16}, {0, 1, LEAST}, {0, 1, MOST}};
        for (int[] b : bad) {
            c.due(java.util.Arrays.toString(b), x.table(b[0], b[1], b[2]), BAD);
        }
        c.due("the last of all", x.table(0, 21, 15), 0);
    }
}
