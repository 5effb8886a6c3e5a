import java.util.ArrayList;
import java.util.List;
import java.util.Map;

/** Long runs of calls, each answer and in the end each state compared with the Model's. */
public final class LongRunsTest {
    private static final int[] ODD = {Integer.MIN_VALUE, Integer.MAX_VALUE, -1, 0, 1, 2, 3, 7, 8, 9, 12, 14,
        15, 16, 20, 21, 22, 63, 255, 256, -9, 1 << 30, 1 << 16, -65536};
    // Beyond that nothing is promised.
    private static final int MOST_CALLS = 512;
    private static final Checks c = new Checks("LongRunsTest");
    private static int kindsOfFaults;
    private static long blocksRead;

    private final ReportBlocks x = new ReportBlocks();
    private final Model m = new Model();
    private long seed;
    private int calls;

    private LongRunsTest(long seed) {
        this.seed = seed * 0x9E3779B97F4A7C15L + 12345;
    }

    public static void main(String[] args) {
        for (int run = 1; run <= 5000; run++) {
            new LongRunsTest(run).run();
        }
        c.due("kinds of faults met, as bits", kindsOfFaults, 0x1FE);
        c.due("many blocks are read", blocksRead > 30000 ? 1 : 0, 1);
        c.finish();
    }

    /** A number 0 .. n-1: the same ones for the same seed. */
    private int any(int n) {
        seed = seed * 6364136223846793005L + 1442695040888963407L;
        return (int) ((seed >>> 33) % n);
    }

    private int odd(int n) {
        return any(12) == 0 ? ODD[any(ODD.length)] : any(n);
    }

    private void due(String call, long got, long want) {
        calls++;
        c.due(call, got, want);
    }

    private void run() {
        for (int i = 1 + any(3); i > 0; i--) {
            makeCategory();
        }
        while (calls < 400) {
            step();
        }
        while (calls < MOST_CALLS) {
            lookAtAny();
        }
        blocksRead += m.blocks;
    }

    private void makeCategory() {
        int number = any(8) == 0 ? odd(300) : 1 + any(255);
        due("category", x.category(number), m.category(number));
        int category = m.tables.size() - 1;
        int items = 3 + any(8);
        for (int i = 0; i < items; i++) {
            putItem(category, 1 + any(21), any(4));
        }
        int number2 = 1 + any(10);
        int at = 11 + any(11);
        if (any(4) != 0) {
            due("item", x.item(category, number2, 0, 2), m.item(category, number2, 0, 2));
            due("item", x.item(category, at, 0, 4), m.item(category, at, 0, 4));
            due("tells", x.tells(category, number2, at), m.tells(category, number2, at));
        }
    }

    private void putItem(int category, int place, int kind) {
        int n = kind == 0 ? 1 + any(8) : 1 + any(4);
        due("item", x.item(category, place, kind, n), m.item(category, place, kind, n));
        for (int i = kind == 3 ? 1 + any(5) : 0; i > 0; i--) {
            int part = any(14);
            int size = 1 + any(4);
            due("part", x.part(category, place, part, size), m.part(category, place, part, size));
        }
    }

    private void step() {
        switch (any(16)) {
            case 0, 1, 2, 3, 4 -> readBlock();
            case 5, 6 -> reports();
            case 7 -> ownRecord();
            case 8 -> copies();
            case 9, 10 -> look();
            case 11 -> changeTables();
            case 12 -> {
                int n = any(3) == 0 ? odd(24) : 1 + any(3);
                due("tick " + n, x.tick(n), m.tick(n));
            }
            case 13 -> {
                long bytes = (long) any(1 << 30) << 34 ^ any(1 << 30);
                int n = odd(10);
                due("feed", x.feed(bytes, n), m.feed(bytes, n));
            }
            case 14 -> due("tear", x.tear(), m.tear());
            default -> {
                due("read", x.read(), m.read());
                noteFault();
            }
        }
    }

    private void noteFault() {
        due("fault", x.fault(), m.fault());
        kindsOfFaults |= m.fault == 0 ? 0 : 1 << m.fault;
    }

    private void feedAll(List<Integer> bytes) {
        for (int i = 0; i < bytes.size(); i += 8) {
            long value = any(1 << 30);
            int n = Math.min(8, bytes.size() - i);
            for (int j = i; j < i + n; j++) {
                value = value << 8 | bytes.get(j);
            }
            due("feed", x.feed(value, n), m.feed(value, n));
        }
    }

    private void readBlock() {
        if (m.tables.isEmpty()) {
            return;
        }
        Model.Table t = m.tables.get(any(m.tables.size()));
        if (t.items.isEmpty()) {
            return;
        }
        List<Integer> bytes = new ArrayList<>(List.of(t.number, 0, 0));
        int records = any(6) == 0 ? 1 + any(10) : 1 + any(3);
        for (int i = 0; i < records; i++) {
            int before = bytes.size();
            addRecord(t, bytes, records > 4);
            if (bytes.size() > 120) {
                bytes.subList(before, bytes.size()).clear();
                break;
            }
        }
        for (int i = any(4) == 0 ? 1 + any(2) : 0; i > 0; i--) {
            spoil(bytes, t);
        }
        bytes.set(1, any(60) == 0 ? any(3) : bytes.size() >> 8);
        bytes.set(2, any(40) == 0 ? any(256) : bytes.size() & 255);
        if (any(4) != 0) {
            due("tear", x.tear(), m.tear());
        }
        feedAll(bytes);
        due("read", x.read(), m.read());
        noteFault();
    }

    private void spoil(List<Integer> bytes, Model.Table t) {
        int at = any(bytes.size());
        switch (any(6)) {
            case 0 -> bytes.set(at, any(256));
            case 1 -> bytes.set(at, bytes.get(at) ^ 1);
            case 2 -> bytes.set(at, 0);
            case 3 -> bytes.set(at, bytes.get(at) ^ 1 << any(8));
            case 4 -> bytes.remove(bytes.size() - 1);
            default -> bytes.add(any(256));
        }
        if (bytes.size() < 3 || any(20) != 0) {
            while (bytes.size() < 3) {
                bytes.add(0);
            }
            bytes.set(0, t.number);
        }
    }

    private void addRecord(Model.Table t, List<Integer> bytes, boolean small) {
        List<Integer> body = new ArrayList<>();
        int[] bits = new int[21];
        int last = 0;
        int wanted = small ? 1 : 1 + any(t.items.size());
        for (Map.Entry<Integer, Model.Item> entry : t.items.entrySet()) {
            boolean told = entry.getKey() == t.tellsNumber || entry.getKey() == t.tellsAt;
            if (told ? any(5) != 0 : any(t.items.size()) < wanted) {
                bits[entry.getKey() - 1] = 1;
                last = entry.getKey();
                addItem(entry.getValue(), body, told && entry.getValue().n() == 2);
            }
        }
        addBits(bits, last, bytes);
        bytes.addAll(body);
    }

    private void addBits(int[] bits, int last, List<Integer> bytes) {
        for (int from = 0; from == 0 || from < last; from += 7) {
            int value = 0;
            for (int i = from; i < from + 7; i++) {
                value = value << 1 | (i < bits.length ? bits[i] : 0);
            }
            bytes.add(value << 1 | (from + 7 < last ? 1 : 0));
        }
    }

    private void addItem(Model.Item item, List<Integer> bytes, boolean isNumber) {
        switch (item.kind()) {
            case 0 -> {
                for (int i = 0; i < item.n(); i++) {
                    bytes.add(isNumber ? i == 0 ? any(2) * 16 : any(16) : any(256));
                }
            }
            case 1 -> {
                for (int i = any(6); i > 0; i--) {
                    bytes.add(any(256) | 1);
                }
                bytes.add(any(128) * 2);
            }
            case 2 -> {
                int r = any(15) == 0 ? any(8) : 1 + any(5);
                bytes.add(r);
                for (int i = 0; i < r * item.n(); i++) {
                    bytes.add(any(256));
                }
            }
            default -> {
                List<Integer> body = new ArrayList<>();
                int[] bits = new int[14];
                int last = 0;
                for (int part = 0; part < 14; part++) {
                    if (item.parts()[part] > 0 && any(2) == 0) {
                        bits[part] = 1;
                        last = part + 1;
                        for (int i = 0; i < item.parts()[part]; i++) {
                            body.add(any(256));
                        }
                    }
                }
                addBits(bits, last, bytes);
                bytes.addAll(body);
            }
        }
    }

    private void reports() {
        for (int record = 0; record < m.reports.size(); record++) {
            due("report", x.report(record), m.report(record));
        }
        int record = odd(10);
        due("report", x.report(record), m.report(record));
    }

    private void ownRecord() {
        if (m.own == null || any(5) == 0) {
            int category = odd(3);
            due("begin", x.begin(category), m.begin(category));
        }
        for (int i = any(4); i > 0; i--) {
            int place = any(8) == 0 || m.own == null ? odd(23) : anyPlace(m.tables.get(m.ownCategory));
            Model.Item item = m.own == null ? null : m.tables.get(m.ownCategory).items.get(place);
            List<Integer> bytes = new ArrayList<>();
            if (item == null) {
                bytes.add(any(256));
            } else {
                addItem(item, bytes, false);
            }
            if (any(6) == 0) {
                bytes.set(any(bytes.size()), any(256));
            }
            if (any(10) != 0) {
                due("tear", x.tear(), m.tear());
            }
            feedAll(bytes);
            due("set", x.set(place), m.set(place));
        }
        if (any(3) == 0) {
            int place = odd(23);
            due("take", x.take(place), m.take(place));
        }
        due("write", x.write(), m.write());
        if (any(2) == 0) {
            due("read", x.read(), m.read());
            noteFault();
        }
    }

    private int anyPlace(Model.Table t) {
        List<Integer> places = new ArrayList<>(t.items.keySet());
        return places.isEmpty() ? 1 : places.get(any(places.size()));
    }

    private void copies() {
        int without = any(3) == 0 ? odd(512) : any(1 << m.reports.size());
        due("copy", x.copy(without), m.copy(without));
        if (any(3) == 0) {
            due("read", x.read(), m.read());
            noteFault();
        }
    }

    private void changeTables() {
        int category = odd(3);
        int place = odd(23);
        int kind = odd(6) - 1;
        int n = odd(10);
        due("item", x.item(category, place, kind, n), m.item(category, place, kind, n));
        int part = odd(16);
        int size = odd(6);
        due("part", x.part(category, place, part, size), m.part(category, place, part, size));
        int at = odd(23);
        due("tells", x.tells(category, place, at), m.tells(category, place, at));
        int what = odd(18);
        due("table", x.table(category, place, what), m.table(category, place, what));
        if (any(30) == 0) {
            int number = odd(300);
            due("category", x.category(number), m.category(number));
        }
    }

    private void look() {
        int record = odd(m.reports.size() + 1);
        int place = m.reports.isEmpty() || any(4) == 0 ? odd(23) : anyPlace(m.tables.get(m.blockCategory));
        int i = odd(16);
        due("has", x.has(record, place, i), m.has(record, place, i));
        due("has 0", x.has(record, place, 0), m.has(record, place, 0));
        due("at", x.at(record, place, i), m.at(record, place, i));
        due("number", x.number(record, place, i), m.number(record, place, i));
        due("tape", x.tape(i), m.tape(i));
        due("records", x.records(i), m.records(i));
        due("count", x.count(i), m.count(i));
        due("track", x.track(record, i), m.track(record, i));
    }

    private void lookAtAny() {
        int what = any(7);
        switch (any(6)) {
            case 0 -> due("in the end: count " + what, x.count(what), m.count(what));
            case 1 -> {
                int place = any(m.trails.size() + 1);
                due("in the end: track", x.track(place, what), m.track(place, what));
            }
            case 2 -> {
                int i = any(any(3) == 0 ? 301 : m.tape.size() + 1);
                due("in the end: tape " + i, x.tape(i), m.tape(i));
            }
            case 3 -> {
                int category = any(3);
                int place = 1 + any(21);
                int of = any(16);
                due("in the end: table", x.table(category, place, of), m.table(category, place, of));
            }
            default -> lookAtARecord();
        }
    }

    private void lookAtARecord() {
        int record = any(m.reports.size() + 1);
        int place = m.reports.isEmpty() ? 1 + any(21) : anyPlace(m.tables.get(m.blockCategory));
        int i = any(14);
        switch (any(4)) {
            case 0 -> due("in the end: where", x.has(record, place, 1), m.has(record, place, 1));
            case 1 -> due("in the end: at", x.at(record, place, i), m.at(record, place, i));
            default -> due("in the end: number", x.number(record, place, i), m.number(record, place, i));
        }
    }
}
