import java.util.ArrayList;
import java.util.Arrays;
import java.util.List;
import java.util.TreeMap;

/** The document once more, told in another way, to be compared with over long runs of calls. */
final class Model {
    static final int BAD = -1, STATE = -2, FULL = -3, NONE = -9;

    static final class Fault extends Exception {
        private static final long serialVersionUID = 1L;
        final int number;
        final int place;

        Fault(int number, int place) {
            this.number = number;
            this.place = place;
        }
    }

    record Item(int kind, int n, int[] parts) { }

    static final class Table {
        final int number;
        final TreeMap<Integer, Item> items = new TreeMap<>();
        int tellsNumber;
        int tellsAt;

        Table(int number) {
            this.number = number;
        }

        boolean fixed(int place, int n) {
            Item item = items.get(place);
            return item != null && item.kind == 0 && item.n == n;
        }
    }

    record Found(int begin, int end) { }

    record Report(int begin, int end, TreeMap<Integer, Found> items) { }

    record Trail(int number, int x, int y, int lastX, int lastY, int vx, int vy, int age, int hits) { }

    final List<Table> tables = new ArrayList<>();
    List<Integer> tape = new ArrayList<>();
    int[] block = new int[0];
    int blockCategory = NONE;
    List<Report> reports = new ArrayList<>();
    TreeMap<Integer, int[]> own;
    int ownCategory = NONE;
    List<Trail> trails = new ArrayList<>();
    int fault;
    int lost;
    int dropped;
    int ticks;
    int blocks;

    private Table get(int category) {
        return category >= 0 && category < tables.size() ? tables.get(category) : null;
    }

    private static boolean within(int value, int least, int most) {
        return value >= least && value <= most;
    }

    private boolean used(int category) {
        return !reports.isEmpty() && blockCategory == category || own != null && ownCategory == category;
    }

    int category(int number) {
        if (!within(number, 1, 255) || tables.stream().anyMatch(t -> t.number == number)) {
            return BAD;
        }
        if (tables.size() == 3) {
            return FULL;
        }
        tables.add(new Table(number));
        return tables.size() - 1;
    }

    int item(int category, int place, int kind, int n) {
        Table t = get(category);
        if (t == null || !within(place, 1, 21) || !within(kind, -1, 3) || kind == 0 && !within(n, 1, 8)
            || kind == 2 && !within(n, 1, 4)) {
            return BAD;
        }
        if (used(category)) {
            return STATE;
        }
        Item before = kind == -1 ? t.items.remove(place)
            : t.items.put(place, new Item(kind, kind % 2 == 0 ? n : 0, new int[14]));
        return before == null ? NONE : before.kind;
    }

    int part(int category, int place, int part, int n) {
        Table t = get(category);
        Item item = t == null ? null : t.items.get(place);
        if (item == null || item.kind != 3 || !within(part, 0, 13) || !within(n, 0, 4)) {
            return BAD;
        }
        if (used(category)) {
            return STATE;
        }
        int before = item.parts[part];
        item.parts[part] = n;
        return before;
    }

    int tells(int category, int number, int at) {
        Table t = get(category);
        if (t == null || !t.fixed(number, 2) || !t.fixed(at, 4)) {
            return BAD;
        }
        t.tellsNumber = number;
        t.tellsAt = at;
        return 1;
    }

    int table(int category, int place, int what) {
        Table t = get(category);
        if (t == null || !within(place, 1, 21) || !within(what, 0, 15)) {
            return BAD;
        }
        Item item = t.items.get(place);
        if (item == null) {
            return what == 0 ? NONE : 0;
        }
        return what == 0 ? item.kind : what == 1 ? item.n : item.parts[what - 2];
    }

    int feed(long bytes, int n) {
        if (!within(n, 1, 8)) {
            return BAD;
        }
        if (tape.size() + n > 300) {
            return FULL;
        }
        byte[] all = java.nio.ByteBuffer.allocate(8).putLong(bytes).array();
        for (int i = 8 - n; i < 8; i++) {
            tape.add(Byte.toUnsignedInt(all[i]));
        }
        return tape.size();
    }

    int tear() {
        int before = tape.size();
        tape.clear();
        return before;
    }

    private static int byteOf(int[] bytes, int at) throws Fault {
        if (at >= bytes.length) {
            throw new Fault(3, bytes.length);
        }
        return bytes[at];
    }

    /** The bits from a byte on as a text of 0 and 1, seven a byte. */
    private static String bits(int[] bytes, int at, int most) throws Fault {
        StringBuilder text = new StringBuilder();
        for (int i = 0; ; i++) {
            String eight = Integer.toBinaryString(256 + byteOf(bytes, at + i)).substring(1);
            text.append(eight, 0, 7);
            if (eight.charAt(7) == '1') {
                if (i == most - 1) {
                    throw new Fault(4, at + i);
                }
            } else if (eight.equals("00000000")) {
                throw new Fault(4, at + i);
            } else {
                return text.toString();
            }
        }
    }

    private static int all(int[] bytes, int at, int n) throws Fault {
        for (int i = at; i < at + n; i++) {
            byteOf(bytes, i);
        }
        return at + n;
    }

    /** Where an item ends. */
    private static int itemEnd(Item item, int[] bytes, int at) throws Fault {
        switch (item.kind) {
            case 0:
                return all(bytes, at, item.n);
            case 1:
                for (int i = 0; ; i++) {
                    if (byteOf(bytes, at + i) % 2 == 0) {
                        return at + i + 1;
                    }
                    if (i == 5) {
                        throw new Fault(7, at + i);
                    }
                }
            case 2:
                int r = byteOf(bytes, at);
                if (!within(r, 1, 5)) {
                    throw new Fault(6, at);
                }
                return all(bytes, at + 1, r * item.n);
            default:
                String bits = bits(bytes, at, 2);
                int next = at + bits.length() / 7;
                for (int i = 0; i < bits.length(); i++) {
                    if (bits.charAt(i) == '1' && item.parts[i] == 0) {
                        throw new Fault(5, at + i / 7);
                    }
                }
                for (int i = 0; i < bits.length(); i++) {
                    next = bits.charAt(i) == '1' ? all(bytes, next, item.parts[i]) : next;
                }
                return next;
        }
    }

    private static void places(Table t, String bits, int at) throws Fault {
        for (int i = 0; i < bits.length(); i++) {
            if (bits.charAt(i) == '1' && !t.items.containsKey(i + 1)) {
                throw new Fault(5, at + i / 7);
            }
        }
    }

    private static List<Report> parse(Table t, int[] bytes) throws Fault {
        List<Report> found = new ArrayList<>();
        int at = 3;
        while (at < bytes.length) {
            if (found.size() == 8) {
                if (bytes[at] == 0) {
                    throw new Fault(4, at);
                }
                places(t, Integer.toBinaryString(256 + bytes[at]).substring(1, 8), at);
                throw new Fault(8, at);
            }
            String bits = bits(bytes, at, 3);
            places(t, bits, at);
            TreeMap<Integer, Found> items = new TreeMap<>();
            int next = at + bits.length() / 7;
            for (int i = 0; i < bits.length(); i++) {
                if (bits.charAt(i) == '1') {
                    int end = itemEnd(t.items.get(i + 1), bytes, next);
                    items.put(i + 1, new Found(next, end));
                    next = end;
                }
            }
            found.add(new Report(at, next, items));
            at = next;
        }
        return found;
    }

    int read() {
        if (tape.isEmpty()) {
            return STATE;
        }
        try {
            Table t = tables.stream().filter(each -> each.number == tape.get(0)).findFirst().orElse(null);
            if (t == null) {
                throw new Fault(1, 0);
            }
            int length = tape.size() < 3 ? 0 : tape.get(1) << 8 | tape.get(2);
            if (!within(length, 4, tape.size())) {
                throw new Fault(2, 1);
            }
            int[] bytes = tape.subList(0, length).stream().mapToInt(Integer::intValue).toArray();
            reports = parse(t, bytes);
            block = bytes;
            blockCategory = tables.indexOf(t);
            tape = new ArrayList<>(tape.subList(length, tape.size()));
            fault = 0;
            blocks++;
            return reports.size();
        } catch (Fault met) {
            fault = met.number;
            return -100 - met.place;
        }
    }

    int fault() {
        return fault;
    }

    int records(int what) {
        return what == 0 ? reports.size() : what == 1 ? reports.isEmpty() ? NONE : blockCategory : BAD;
    }

    private Found find(int record, int place) {
        return reports.get(record).items.get(place);
    }

    private boolean isBad(int record, int place) {
        return !within(record, 0, reports.size() - 1) || !within(place, 1, 21);
    }

    int has(int record, int place, int what) {
        if (isBad(record, place) || !within(what, 0, 1)) {
            return BAD;
        }
        Found found = find(record, place);
        return found == null ? what == 0 ? 0 : NONE : what == 0 ? found.end - found.begin : found.begin;
    }

    int at(int record, int place, int i) {
        if (isBad(record, place)) {
            return BAD;
        }
        Found found = find(record, place);
        return found == null || i < 0 || i >= found.end - found.begin ? NONE : block[found.begin + i];
    }

    private long join(int from, int n) {
        java.math.BigInteger sum = java.math.BigInteger.ZERO;
        for (int i = 0; i < n; i++) {
            sum = sum.shiftLeft(8).add(java.math.BigInteger.valueOf(block[from + i]));
        }
        return sum.longValue();
    }

    long number(int record, int place, int i) {
        if (isBad(record, place)) {
            return BAD;
        }
        Found found = find(record, place);
        if (found == null) {
            return NONE;
        }
        Item item = tables.get(blockCategory).items.get(place);
        if (item.kind == 0) {
            return i == 0 ? join(found.begin, item.n) : NONE;
        }
        if (item.kind == 2) {
            return within(i, 0, block[found.begin] - 1) ? join(found.begin + 1 + i * item.n, item.n) : NONE;
        }
        if (item.kind == 3) {
            return partNumber(item, found, i);
        }
        return NONE;
    }

    private long partNumber(Item item, Found found, int i) {
        try {
            String bits = bits(block, found.begin, 2);
            if (!within(i, 0, bits.length() - 1) || bits.charAt(i) == '0') {
                return NONE;
            }
            // From the end of the item back over the parts that follow.
            int end = found.end;
            for (int part = bits.length() - 1; part > i; part--) {
                end -= bits.charAt(part) == '1' ? item.parts[part] : 0;
            }
            return join(end - item.parts[i], item.parts[i]);
        } catch (Fault never) {
            throw new IllegalStateException(never);
        }
    }

    int begin(int category) {
        if (get(category) == null) {
            return BAD;
        }
        own = new TreeMap<>();
        ownCategory = category;
        return 1;
    }

    int set(int place) {
        if (!within(place, 1, 21)) {
            return BAD;
        }
        if (own == null) {
            return STATE;
        }
        Item item = tables.get(ownCategory).items.get(place);
        int[] bytes = tape.stream().mapToInt(Integer::intValue).toArray();
        try {
            if (item == null || itemEnd(item, bytes, 0) != bytes.length) {
                return BAD;
            }
        } catch (Fault met) {
            return BAD;
        }
        own.put(place, bytes);
        tape.clear();
        return bytes.length;
    }

    int take(int place) {
        if (!within(place, 1, 21)) {
            return BAD;
        }
        if (own == null) {
            return STATE;
        }
        int[] before = own.remove(place);
        return before == null ? BAD : before.length;
    }

    private int append(int number, List<Integer> rest) {
        int size = rest.size() + 3;
        if (tape.size() + size > 300) {
            return FULL;
        }
        tape.addAll(List.of(number, size / 256, size % 256));
        tape.addAll(rest);
        return size;
    }

    int write() {
        if (own == null || own.isEmpty()) {
            return STATE;
        }
        int[] bits = new int[(own.lastKey() + 6) / 7];
        Arrays.fill(bits, 1);
        bits[bits.length - 1] = 0;
        own.keySet().forEach(place -> bits[(place - 1) / 7] |= 128 >> (place - 1) % 7);
        List<Integer> rest = new ArrayList<>();
        Arrays.stream(bits).forEach(rest::add);
        own.values().forEach(bytes -> Arrays.stream(bytes).forEach(rest::add));
        return append(tables.get(ownCategory).number, rest);
    }

    int copy(int without) {
        if (!within(without, 0, (1 << reports.size()) - 1)) {
            return BAD;
        }
        List<Integer> rest = new ArrayList<>();
        for (int i = 0; i < reports.size(); i++) {
            if ((without & 1 << i) == 0) {
                Arrays.stream(block, reports.get(i).begin, reports.get(i).end).forEach(rest::add);
            }
        }
        return rest.isEmpty() ? STATE : append(tables.get(blockCategory).number, rest);
    }

    int tape(int i) {
        return within(i, 0, tape.size() - 1) ? tape.get(i) : NONE;
    }

    int report(int record) {
        if (!within(record, 0, reports.size() - 1)) {
            return BAD;
        }
        Table t = tables.get(blockCategory);
        if (!t.fixed(t.tellsNumber, 2) || !t.fixed(t.tellsAt, 4) || find(record, t.tellsNumber) == null
            || find(record, t.tellsAt) == null) {
            return NONE;
        }
        int number = (int) join(find(record, t.tellsNumber).begin, 2) % 4096;
        int x = (short) join(find(record, t.tellsAt).begin, 2);
        int y = (short) join(find(record, t.tellsAt).begin + 2, 2);
        for (int i = 0; i < trails.size(); i++) {
            Trail a = trails.get(i);
            if (a.number == number) {
                int since = a.age == 0 ? 1 : a.age;
                trails.set(i, new Trail(number, x, y, x, y, (x - a.lastX) / since, (y - a.lastY) / since, 0,
                    a.hits + 1));
                return i;
            }
        }
        if (trails.size() == 12) {
            lost++;
            return NONE;
        }
        trails.add(new Trail(number, x, y, x, y, 0, 0, 0, 1));
        return trails.size() - 1;
    }

    int tick(int n) {
        if (!within(n, 1, 20)) {
            return BAD;
        }
        int before = trails.size();
        for (int i = 0; i < n; i++) {
            ticks++;
            trails.replaceAll(a -> {
                boolean coasts = a.age + 1 >= 2;
                return new Trail(a.number, coasts ? (short) (a.x + a.vx) : a.x,
                    coasts ? (short) (a.y + a.vy) : a.y, a.lastX, a.lastY, a.vx, a.vy, a.age + 1, a.hits);
            });
            trails.removeIf(a -> a.age == 6);
        }
        dropped += before - trails.size();
        return before - trails.size();
    }

    int track(int place, int what) {
        if (!within(place, 0, trails.size() - 1) || !within(what, 0, 6)) {
            return BAD;
        }
        Trail a = trails.get(place);
        return new int[] {a.number, a.x, a.y, a.vx, a.vy, a.age, a.hits}[what];
    }

    int count(int what) {
        return within(what, 0, 6)
            ? new int[] {tables.size(), trails.size(), lost, dropped, ticks, tape.size(), blocks}[what] : BAD;
    }
}
