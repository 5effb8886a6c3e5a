import java.util.ArrayList;
import java.util.List;
import java.util.function.Supplier;
import java.util.function.ToLongFunction;

/** The sentence of 'Terms' about calls that are refused: what they answer, and that nothing changes. */
public final class EdgesOfRefusalsTest {
    private static final int BAD = ReportBlocks.BAD, STATE = ReportBlocks.STATE;
    private static final int FULL = ReportBlocks.FULL;
    private static final int LEAST = Integer.MIN_VALUE, MOST = Integer.MAX_VALUE;
    private static final int[] NEVER = {LEAST, LEAST + 1, -256, -10, -1, 1 << 16, 1 << 30, MOST - 1, MOST};
    private static final Checks c = new Checks("EdgesOfRefusalsTest");

    public static void main(String[] args) {
        nothingChangesByBad();
        nothingChangesByState();
        nothingChangesByFull();
        badAheadOfAll();
        stateAheadOfFull();
        numbersThatAreNever();
        c.finish();
    }

    /**
     * Three categories, the first one told; two records of it; a track that coasts; a record of one's
     * own for the second one; a fault of the latest read, whose bytes are on the tape.
     */
    private static ReportBlocks rich() {
        ReportBlocks x = new ReportBlocks();
        x.category(9);
        x.item(0, 1, 0, 2);
        x.item(0, 2, 0, 4);
        x.item(0, 5, 3, 0);
        x.part(0, 5, 1, 1);
        x.tells(0, 1, 2);
        x.category(20);
        x.item(1, 1, 2, 1);
        x.item(1, 5, 3, 0);
        x.part(1, 5, 0, 2);
        x.category(30);
        x.item(2, 1, 1, 0);
        x.item(2, 5, 3, 0);
        x.part(2, 5, 0, 3);
        Checks.readBlock(x, 9, 0xC8, 0, 7, 0, 3, 0, 4, 0x40, 6, 0xC0, 0, 8, 0, 5, 0, 6);
        x.report(0);
        Checks.readBlock(x, 9, 0xC8, 0, 7, 0, 13, 0, 24, 0x40, 6, 0xC0, 0, 8, 0, 5, 0, 6);
        x.report(0);
        x.tick(3);
        x.begin(1);
        x.feed(0x020506, 3);
        x.set(1);
        x.feed(0x090002, 3);
        x.read();
        return x;
    }

    private static ReportBlocks full() {
        ReportBlocks x = rich();
        Checks.feed(x, new int[296]);
        return x;
    }

    /** What some 150 calls answer; the last ones show what is seen by their doing alone. */
    private static List<Long> look(ReportBlocks x) {
        List<Long> seen = new ArrayList<>();
        for (int what = 0; what < 7; what++) {
            seen.add((long) x.count(what));
        }
        seen.add((long) x.fault());
        for (int category = 0; category < 3; category++) {
            for (int place : new int[] {1, 2, 5, 21}) {
                for (int what = 0; what < 4; what++) {
                    seen.add((long) x.table(category, place, what));
                }
            }
        }
        lookAtRecords(x, seen);
        lookAtTape(x, seen);
        lookAtTracks(x, seen);
        x.tear();
        seen.add((long) x.write());
        seen.add((long) x.copy(0));
        lookAtTape(x, seen);
        seen.add((long) x.report(1));
        seen.add((long) x.report(0));
        seen.add((long) x.tick(2));
        lookAtTracks(x, seen);
        return seen;
    }

    private static void lookAtRecords(ReportBlocks x, List<Long> seen) {
        seen.add((long) x.records(0));
        seen.add((long) x.records(1));
        for (int record = 0; record < 2; record++) {
            seen.add((long) x.has(record, 1, 1));
            seen.add((long) x.has(record, 5, 0));
            seen.add(x.number(record, 1, 0));
            seen.add(x.number(record, 2, 0));
            seen.add(x.number(record, 5, 1));
        }
    }

    private static void lookAtTape(ReportBlocks x, List<Long> seen) {
        for (int i = 0; i < 28; i++) {
            seen.add((long) x.tape(i));
        }
        seen.add((long) x.tape(298));
        seen.add((long) x.tape(299));
    }

    private static void lookAtTracks(ReportBlocks x, List<Long> seen) {
        for (int place = 0; place < 2; place++) {
            for (int what = 0; what < 7; what++) {
                seen.add((long) x.track(place, what));
            }
        }
    }

    private static void refused(String call, Supplier<ReportBlocks> made, long want, ToLongFunction<ReportBlocks> tried) {
        ReportBlocks x = made.get();
        c.due(call, tried.applyAsLong(x), want);
        c.due(call + " again", tried.applyAsLong(x), want);
        List<Long> seen = look(x);
        List<Long> due = look(made.get());
        for (int i = 0; i < due.size(); i++) {
            c.due(call + ": look " + i, seen.get(i), due.get(i));
        }
    }

    private static void nothingChangesByBad() {
        c.sentence("Refused, and nothing changes but as told, the first of these: BAD"
            + " (a number is not as told, or there is no such thing)");
        Supplier<ReportBlocks> rich = EdgesOfRefusalsTest::rich;
        refused("category(0)", EdgesOfRefusalsTest::twoCategories, BAD, x -> x.category(0));
        refused("category(256)", EdgesOfRefusalsTest::twoCategories, BAD, x -> x.category(256));
        refused("category(9)", EdgesOfRefusalsTest::twoCategories, BAD, x -> x.category(9));
        refused("item of no category", rich, BAD, x -> x.item(3, 1, 0, 1));
        refused("item of no place", rich, BAD, x -> x.item(2, 22, 0, 1));
        refused("item of no kind", rich, BAD, x -> x.item(2, 1, 4, 1));
        refused("item of no n", rich, BAD, x -> x.item(2, 1, 0, 9));
        refused("part of no category", rich, BAD, x -> x.part(3, 5, 0, 1));
        refused("part of no made one", rich, BAD, x -> x.part(2, 1, 0, 1));
        refused("part of none", rich, BAD, x -> x.part(2, 2, 0, 1));
        refused("no part", rich, BAD, x -> x.part(2, 5, 14, 1));
        refused("part of no n", rich, BAD, x -> x.part(2, 5, 0, 5));
        refused("tells of no category", rich, BAD, x -> x.tells(3, 1, 2));
        refused("tells by the wrong ones", rich, BAD, x -> x.tells(0, 2, 1));
        refused("tells a number by the wrong one", rich, BAD, x -> x.tells(0, 5, 2));
        refused("tells X, Y by the wrong one", rich, BAD, x -> x.tells(0, 1, 5));
        refused("table of nothing", rich, BAD, x -> x.table(0, 1, 16));
        refused("feed none", rich, BAD, x -> x.feed(-1, 0));
        refused("feed nine", rich, BAD, x -> x.feed(-1, 9));
        refused("records of nothing", rich, BAD, x -> x.records(2));
        refused("has of no record", rich, BAD, x -> x.has(2, 1, 0));
        refused("at of no record", rich, BAD, x -> x.at(2, 1, 0));
        refused("number of no record", rich, BAD, x -> x.number(2, 1, 0));
        refused("begin for no category", rich, BAD, x -> x.begin(3));
        refused("set at no place", rich, BAD, x -> x.set(22));
        refused("set what is not one", rich, BAD, x -> x.set(1));
        refused("set where there is none", rich, BAD, x -> x.set(3));
        refused("take at no place", rich, BAD, x -> x.take(0));
        refused("take what is not there", rich, BAD, x -> x.take(5));
        refused("copy without one beyond", rich, BAD, x -> x.copy(4));
        refused("report no record", rich, BAD, x -> x.report(2));
        refused("tick(0)", rich, BAD, x -> x.tick(0));
        refused("tick(21)", rich, BAD, x -> x.tick(21));
        refused("track at no place", rich, BAD, x -> x.track(1, 0));
        refused("track of nothing", rich, BAD, x -> x.track(0, 7));
        refused("count of nothing", rich, BAD, x -> x.count(7));
    }

    private static ReportBlocks twoCategories() {
        ReportBlocks x = new ReportBlocks();
        x.category(9);
        x.category(20);
        return x;
    }

    private static void nothingChangesByState() {
        c.sentence("Refused, and nothing changes but as told, the first of these: BAD"
            + " (a number is not as told, or there is no such thing), STATE (as told)");
        Supplier<ReportBlocks> rich = EdgesOfRefusalsTest::rich;
        Supplier<ReportBlocks> made = ReportBlocks::new;
        refused("item of the records", rich, STATE, x -> x.item(0, 1, 0, 3));
        refused("item of the one begun", rich, STATE, x -> x.item(1, 2, 0, 3));
        refused("no item of the records", rich, STATE, x -> x.item(0, 5, -1, 0));
        refused("part of the records", rich, STATE, x -> x.part(0, 5, 0, 3));
        refused("part of the one begun", rich, STATE, x -> x.part(1, 5, 0, 0));
        refused("read", made, STATE, x -> x.read());
        refused("read an empty tape", EdgesOfRefusalsTest::torn, STATE, x -> x.read());
        refused("set", EdgesOfRefusalsTest::noneBegun, STATE, x -> x.set(1));
        refused("take", EdgesOfRefusalsTest::noneBegun, STATE, x -> x.take(1));
        refused("write", EdgesOfRefusalsTest::noneBegun, STATE, x -> x.write());
        refused("write none", EdgesOfRefusalsTest::taken, STATE, x -> x.write());
        refused("copy none", rich, STATE, x -> x.copy(3));
        refused("copy", EdgesOfRefusalsTest::noneBegun, STATE, x -> x.copy(0));
    }

    private static ReportBlocks torn() {
        ReportBlocks x = rich();
        x.tear();
        return x;
    }

    private static ReportBlocks noneBegun() {
        ReportBlocks x = new ReportBlocks();
        x.category(9);
        x.item(0, 1, 0, 2);
        x.feed(0x0102, 2);
        return x;
    }

    private static ReportBlocks taken() {
        ReportBlocks x = rich();
        x.take(1);
        return x;
    }

    private static void nothingChangesByFull() {
        c.sentence("STATE (as told), FULL.");
        Supplier<ReportBlocks> full = EdgesOfRefusalsTest::full;
        refused("category", EdgesOfRefusalsTest::rich, FULL, x -> x.category(40));
        refused("feed two", full, FULL, x -> x.feed(0x0506, 2));
        refused("feed eight", full, FULL, x -> x.feed(-1, 8));
        refused("write", full, FULL, x -> x.write());
        refused("copy", full, FULL, x -> x.copy(0));
        refused("copy one", full, FULL, x -> x.copy(1));
    }

    private static void badAheadOfAll() {
        c.sentence("the first of these: BAD");
        ReportBlocks x = full();
        c.due("category there, full", x.category(30), BAD);
        c.due("category 0, full", x.category(0), BAD);
        c.due("category 256, full", x.category(256), BAD);
        c.due("category, full", x.category(255), FULL);
        c.due("item in use at place 22", x.item(0, 22, 0, 1), BAD);
        c.due("item in use of kind 4", x.item(0, 1, 4, 1), BAD);
        c.due("item in use of kind -2", x.item(0, 1, -2, 1), BAD);
        c.due("item in use of n 9", x.item(0, 1, 0, 9), BAD);
        c.due("item in use of n 5", x.item(1, 1, 2, 5), BAD);
        c.due("item in use", x.item(0, 1, 0, 2), STATE);
        c.due("part in use at place 22", x.part(0, 22, 1, 1), BAD);
        c.due("part in use of a fixed one", x.part(0, 1, 1, 1), BAD);
        c.due("part in use of none", x.part(1, 2, 1, 1), BAD);
        c.due("part 14 in use", x.part(0, 5, 14, 1), BAD);
        c.due("part in use of n 5", x.part(1, 5, 0, 5), BAD);
        c.due("part in use", x.part(0, 5, 1, 1), STATE);
        x.feed(1, 1);
        c.due("feed 0, full", x.feed(1, 0), BAD);
        c.due("feed 9, full", x.feed(1, 9), BAD);
        c.due("feed 1, full", x.feed(1, 1), FULL);
        c.due("copy, bits beyond and none left, full", x.copy(7), BAD);
        c.due("copy, bits beyond, full", x.copy(4), BAD);
        c.due("copy, bits far beyond, full", x.copy(LEAST), BAD);
        ReportBlocks y = new ReportBlocks();
        c.due("set at place 0, none begun", y.set(0), BAD);
        c.due("set at place 22, none begun", y.set(22), BAD);
        c.due("take at place 0, none begun", y.take(0), BAD);
        c.due("take at place 22, none begun", y.take(22), BAD);
        c.due("copy, bits beyond, no records", y.copy(1), BAD);
    }

    private static void stateAheadOfFull() {
        c.sentence("BAD (a number is not as told, or there is no such thing), STATE (as told), FULL.");
        ReportBlocks x = full();
        x.feed(1, 1);
        c.due("copy, full", x.copy(2), FULL);
        c.due("copy, none left, full", x.copy(3), STATE);
        c.due("write, full", x.write(), FULL);
        x.take(1);
        c.due("write, no item, full", x.write(), STATE);
        ReportBlocks y = new ReportBlocks();
        Checks.feed(y, new int[300]);
        c.due("write, none begun, full", y.write(), STATE);
        c.due("copy, no records, full", y.copy(0), STATE);
    }

    private static void numbersThatAreNever() {
        c.sentence("BAD (a number is not as told");
        for (int n : NEVER) {
            ReportBlocks x = rich();
            String of = " of " + n;
            c.due("category" + of, twoCategories().category(n), BAD);
            c.due("item, category" + of, x.item(n, 1, 0, 1), BAD);
            c.due("item, place" + of, x.item(2, n, 0, 1), BAD);
            c.due("item, kind" + of, n == -1 ? BAD : x.item(2, 2, n, 1), BAD);
            c.due("item, n" + of, x.item(2, 2, 0, n), BAD);
            c.due("item, times n" + of, x.item(2, 2, 2, n), BAD);
            c.due("part, category" + of, x.part(n, 5, 0, 1), BAD);
            c.due("part, place" + of, x.part(2, n, 0, 1), BAD);
            c.due("part, part" + of, x.part(2, 5, n, 1), BAD);
            c.due("part, n" + of, x.part(2, 5, 0, n), BAD);
            c.due("tells, category" + of, x.tells(n, 1, 2), BAD);
            c.due("tells, number" + of, x.tells(0, n, 2), BAD);
            c.due("tells, at" + of, x.tells(0, 1, n), BAD);
            c.due("table, category" + of, x.table(n, 1, 0), BAD);
            c.due("table, place" + of, x.table(0, n, 0), BAD);
            c.due("table, what" + of, x.table(0, 5, n), BAD);
            c.due("feed, n" + of, x.feed(7, n), BAD);
            c.due("records, what" + of, x.records(n), BAD);
            c.due("has, record" + of, x.has(n, 1, 0), BAD);
            c.due("has, place" + of, x.has(0, n, 0), BAD);
            c.due("has, what" + of, x.has(0, 1, n), BAD);
            c.due("at, record" + of, x.at(n, 1, 0), BAD);
            c.due("at, place" + of, x.at(0, n, 0), BAD);
            c.due("number, record" + of, x.number(n, 1, 0), BAD);
            c.due("number, place" + of, x.number(0, n, 0), BAD);
            c.due("begin, category" + of, x.begin(n), BAD);
            c.due("set, place" + of, x.set(n), BAD);
            c.due("take, place" + of, x.take(n), BAD);
            c.due("copy, without" + of, x.copy(n), BAD);
            c.due("report, record" + of, x.report(n), BAD);
            c.due("tick, n" + of, x.tick(n), BAD);
            c.due("track, place" + of, x.track(n, 0), BAD);
            c.due("track, what" + of, x.track(0, n), BAD);
            c.due("count, what" + of, x.count(n), BAD);
            List<Long> seen = look(x);
            List<Long> due = look(rich());
            for (int i = 0; i < due.size(); i++) {
                c.due("after" + of + ": look " + i, seen.get(i), due.get(i));
            }
        }
    }
}
