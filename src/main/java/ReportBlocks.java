import java.util.Arrays;

/**
 * Reports of radars in blocks of bytes: tables tell what the items of a category's records are;
 * blocks are read from the tape and written to it; tracks are kept of what is reported.
 */
public final class ReportBlocks {
    public static final int BAD = -1, STATE = -2, FULL = -3, NONE = -9;

    private static final int FIXED = 0, GOING = 1, AGAIN = 2, MADE = 3;
    private static final int MOST_FIXED = 8, MOST_GOING = 6, MOST_AGAIN = 4, MOST_TIMES = 5;
    private static final int MOST_PART = 4;

    private static final int PLACES = 21, PARTS = 14;
    private static final int RECORD_BITS = 3, MADE_BITS = 2;
    private static final int BITS_A_BYTE = 7;
    // A MADE item is the longest: all its bits, and all its parts at their longest.
    private static final int MOST_ITEM = MADE_BITS + PARTS * MOST_PART;

    private static final int MOST_CATEGORIES = 3, MOST_RECORDS = 8, MOST_TRACKS = 12;
    private static final int TAPE_BYTES = 300;
    private static final int HEAD = 3, LEAST_BLOCK = 4;

    private static final int NUMBER_BYTES = 2, POSITION_BYTES = 4, NUMBER_MASK = 0xFFF;
    private static final int COAST_AGE = 2, DROP_AGE = 6, MOST_TICKS = 20;

    private static final int NO_CATEGORY = 1, NO_LENGTH = 2, BEHIND_END = 3, WRONG_BITS = 4;
    private static final int NOT_THERE = 5, NO_TIMES = 6, GOES_ON = 7, TOO_MANY = 8;

    private final Category[] categories;
    private int categoryCount;
    private final Tape belt;
    private final Reader reader;
    private Block latest;
    private Block spare;
    private final OwnRecord own;
    private final TrackRow row;
    private int latestFault;
    private int blocksRead;

    public ReportBlocks() {
        categories = new Category[MOST_CATEGORIES];
        belt = new Tape();
        reader = new Reader(belt);
        latest = new Block();
        spare = new Block();
        own = new OwnRecord();
        row = new TrackRow();
    }

    // ---- tables

    public int category(int number) {
        if (number < 1 || number > 255 || indexOfNumber(number) != NONE) {
            return BAD;
        }
        if (categoryCount >= MOST_CATEGORIES) {
            return FULL;
        }
        categories[categoryCount] = new Category(number);
        categoryCount++;
        return categoryCount - 1;
    }

    public int item(int category, int place, int kind, int n) {
        Category table = categoryAt(category);
        if (table == null || !isPlace(place) || !isItem(kind, n)) {
            return BAD;
        }
        if (isInUse(category)) {
            return STATE;
        }
        int before = table.kinds[place];
        table.putItem(place, kind, n);
        return before;
    }

    public int part(int category, int place, int part, int n) {
        Category table = categoryAt(category);
        if (table == null || !isPlace(place) || table.kinds[place] != MADE) {
            return BAD;
        }
        if (part < 0 || part >= PARTS || n < 0 || n > MOST_PART) {
            return BAD;
        }
        if (isInUse(category)) {
            return STATE;
        }
        int before = table.partBytes(place, part);
        table.putPart(place, part, n);
        return before;
    }

    public int tells(int category, int number, int at) {
        Category table = categoryAt(category);
        if (table == null || !isPlace(number) || !isPlace(at)) {
            return BAD;
        }
        if (!table.isFixed(number, NUMBER_BYTES) || !table.isFixed(at, POSITION_BYTES)) {
            return BAD;
        }
        table.numberPlace = number;
        table.positionPlace = at;
        return 1;
    }

    public int table(int category, int place, int what) {
        Category table = categoryAt(category);
        if (table == null || !isPlace(place) || what < 0 || what > 1 + PARTS) {
            return BAD;
        }
        if (what == 0) {
            return table.kinds[place];
        }
        if (what == 1) {
            return table.sizes[place];
        }
        return table.partBytes(place, what - 2);
    }

    // ---- blocks

    public int feed(long bytes, int n) {
        if (n < 1 || n > 8) {
            return BAD;
        }
        if (!belt.hasRoom(n)) {
            return FULL;
        }
        for (int i = n - 1; i >= 0; i--) {
            belt.put((int) (bytes >> (8 * i)) & 0xFF);
        }
        return belt.size;
    }

    public int tear() {
        int before = belt.size;
        belt.size = 0;
        return before;
    }

    public int read() {
        if (belt.size == 0) {
            return STATE;
        }
        spare.clear();
        reader.start(belt.size);
        passBlock();
        latestFault = reader.fault;
        if (latestFault != 0) {
            return -100 - reader.faultPlace;
        }
        spare.keepBytes(belt.bytes, reader.end);
        belt.dropFirst(reader.end);
        Block before = latest;
        latest = spare;
        spare = before;
        blocksRead++;
        return latest.count;
    }

    public int fault() {
        return latestFault;
    }

    public int records(int what) {
        if (what == 0) {
            return latest.count;
        }
        return what == 1 ? latest.category : BAD;
    }

    public int has(int record, int place, int what) {
        if (!isRecord(record) || !isPlace(place) || what < 0 || what > 1) {
            return BAD;
        }
        return what == 0 ? latest.sizeOf(record, place) : latest.beginOf(record, place);
    }

    public int at(int record, int place, int i) {
        if (!isRecord(record) || !isPlace(place)) {
            return BAD;
        }
        if (i < 0 || i >= latest.sizeOf(record, place)) {
            return NONE;
        }
        return latest.bytes[latest.beginOf(record, place) + i];
    }

    public long number(int record, int place, int i) {
        if (!isRecord(record) || !isPlace(place)) {
            return BAD;
        }
        Category table = categoryAt(latest.category);
        int size = latest.sizeOf(record, place);
        if (table == null || size == 0 || i < 0) {
            return NONE;
        }
        int begin = latest.beginOf(record, place);
        switch (table.kinds[place]) {
            case FIXED:
                return i == 0 ? latest.joined(begin, size) : NONE;
            case AGAIN:
                int n = table.sizes[place];
                return i < latest.bytes[begin] ? latest.joined(begin + 1 + i * n, n) : NONE;
            case MADE:
                return partNumber(table, place, begin, i);
            default:
                return NONE;
        }
    }

    // ---- writing

    public int begin(int category) {
        if (categoryAt(category) == null) {
            return BAD;
        }
        own.startFor(category);
        return 1;
    }

    public int set(int place) {
        if (!isPlace(place)) {
            return BAD;
        }
        Category table = categoryAt(own.category);
        if (table == null) {
            return STATE;
        }
        int size = belt.size;
        reader.start(size);
        reader.table = table;
        reader.passItem(place);
        if (table.kinds[place] == NONE || reader.fault != 0 || reader.next != size) {
            return BAD;
        }
        own.putItem(place, belt.bytes, size);
        belt.size = 0;
        return size;
    }

    public int take(int place) {
        if (!isPlace(place)) {
            return BAD;
        }
        if (own.category == NONE) {
            return STATE;
        }
        int before = own.sizes[place];
        if (before == 0) {
            return BAD;
        }
        own.sizes[place] = 0;
        return before;
    }

    public int write() {
        Category table = categoryAt(own.category);
        int last = own.lastPlace();
        if (table == null || last == 0) {
            return STATE;
        }
        int bitsBytes = (last + BITS_A_BYTE - 1) / BITS_A_BYTE;
        int size = HEAD + bitsBytes + own.itemBytes();
        if (!belt.hasRoom(size)) {
            return FULL;
        }
        belt.putHead(table.number, size);
        for (int i = 0; i < bitsBytes; i++) {
            belt.put(own.bitsByte(i, i == bitsBytes - 1));
        }
        for (int place = 1; place <= last; place++) {
            belt.putAll(own.bytes, OwnRecord.rowOf(place), own.sizes[place]);
        }
        return size;
    }

    public int copy(int without) {
        if (without < 0 || (without >> latest.count) != 0) {
            return BAD;
        }
        Category table = categoryAt(latest.category);
        int bytesLeft = latest.bytesWithout(without);
        if (table == null || bytesLeft == 0) {
            return STATE;
        }
        int size = HEAD + bytesLeft;
        if (!belt.hasRoom(size)) {
            return FULL;
        }
        belt.putHead(table.number, size);
        for (int record = 0; record < latest.count; record++) {
            if ((without >> record & 1) == 0) {
                belt.putAll(latest.bytes, latest.starts[record], latest.bytesOf(record));
            }
        }
        return size;
    }

    public int tape(int i) {
        return i < 0 || i >= belt.size ? NONE : belt.bytes[i];
    }

    // ---- tracks

    public int report(int record) {
        if (!isRecord(record)) {
            return BAD;
        }
        Category table = categoryAt(latest.category);
        if (table == null || !table.tellsTrack()) {
            return NONE;
        }
        int numberSize = latest.sizeOf(record, table.numberPlace);
        int positionSize = latest.sizeOf(record, table.positionPlace);
        if (numberSize != NUMBER_BYTES || positionSize != POSITION_BYTES) {
            return NONE;
        }
        int from = latest.beginOf(record, table.positionPlace);
        int number = (int) latest.joined(latest.beginOf(record, table.numberPlace), numberSize);
        int x = (short) latest.joined(from, 2);
        int y = (short) latest.joined(from + 2, 2);
        return row.update(number & NUMBER_MASK, x, y);
    }

    public int tick(int n) {
        if (n < 1 || n > MOST_TICKS) {
            return BAD;
        }
        int before = row.dropped;
        for (int i = 0; i < n; i++) {
            row.passTick();
        }
        return row.dropped - before;
    }

    public int track(int place, int what) {
        if (place < 0 || place >= row.size) {
            return BAD;
        }
        Track track = row.tracks[place];
        switch (what) {
            case 0:
                return track.number;
            case 1:
                return track.x;
            case 2:
                return track.y;
            case 3:
                return track.speedX;
            case 4:
                return track.speedY;
            case 5:
                return track.age;
            case 6:
                return track.hits;
            default:
                return BAD;
        }
    }

    public int count(int what) {
        switch (what) {
            case 0:
                return categoryCount;
            case 1:
                return row.size;
            case 2:
                return row.lost;
            case 3:
                return row.dropped;
            case 4:
                return row.ticks;
            case 5:
                return belt.size;
            case 6:
                return blocksRead;
            default:
                return BAD;
        }
    }

    // ---- what the calls share

    private Category categoryAt(int index) {
        return index < 0 || index >= categoryCount ? null : categories[index];
    }

    private int indexOfNumber(int number) {
        for (int i = 0; i < categoryCount; i++) {
            if (categories[i].number == number) {
                return i;
            }
        }
        return NONE;
    }

    // What is there by a table is read by it again, so the table must not change under it.
    private boolean isInUse(int category) {
        return latest.category == category || own.category == category;
    }

    private boolean isRecord(int record) {
        return record >= 0 && record < latest.count;
    }

    private static boolean isPlace(int place) {
        return place >= 1 && place <= PLACES;
    }

    private static boolean isItem(int kind, int n) {
        switch (kind) {
            case FIXED:
                return n >= 1 && n <= MOST_FIXED;
            case AGAIN:
                return n >= 1 && n <= MOST_AGAIN;
            case GOING:
            case MADE:
            case -1:
                return true;
            default:
                return false;
        }
    }

    private static boolean isOne(int[] bytes, int from, int bit) {
        int at = from + bit / BITS_A_BYTE;
        return at < bytes.length && (bytes[at] >> (BITS_A_BYTE - bit % BITS_A_BYTE) & 1) == 1;
    }

    private void passBlock() {
        int index = indexOfNumber(belt.bytes[0]);
        Category table = categoryAt(index);
        if (table == null) {
            reader.fail(NO_CATEGORY, 0);
            return;
        }
        int length = belt.size < HEAD ? 0 : belt.bytes[1] * 256 + belt.bytes[2];
        if (length < LEAST_BLOCK || length > belt.size) {
            reader.fail(NO_LENGTH, 1);
            return;
        }
        spare.category = index;
        reader.table = table;
        reader.end = length;
        reader.next = HEAD;
        for (int i = 0; i < MOST_RECORDS && reader.hasMore(); i++) {
            reader.passRecord(spare);
        }
        if (reader.hasMore()) {
            reader.refuseRecord();
        }
    }

    private long partNumber(Category table, int place, int begin, int part) {
        int bitsBytes = 1 + (latest.bytes[begin] & 1);
        if (part >= bitsBytes * BITS_A_BYTE || !isOne(latest.bytes, begin, part)) {
            return NONE;
        }
        int from = begin + bitsBytes;
        for (int i = 0; i < part; i++) {
            if (isOne(latest.bytes, begin, i)) {
                from += table.partBytes(place, i);
            }
        }
        return latest.joined(from, table.partBytes(place, part));
    }

    /** The table of a category; places count from 1, so row 0 stays empty. */
    private static final class Category {
        final int number;
        final int[] kinds;
        final int[] sizes;
        final int[] parts;
        // 0 as long as none is told.
        int numberPlace;
        int positionPlace;

        Category(int number) {
            this.number = number;
            kinds = new int[PLACES + 1];
            sizes = new int[PLACES + 1];
            parts = new int[(PLACES + 1) * PARTS];
            Arrays.fill(kinds, NONE);
        }

        // An item that is put is a new one: it has none of the parts of the one before it.
        void putItem(int place, int kind, int n) {
            kinds[place] = kind == -1 ? NONE : kind;
            sizes[place] = kind == FIXED || kind == AGAIN ? n : 0;
            Arrays.fill(parts, place * PARTS, (place + 1) * PARTS, 0);
        }

        boolean isFixed(int place, int n) {
            return kinds[place] == FIXED && sizes[place] == n;
        }

        boolean tellsTrack() {
            return isFixed(numberPlace, NUMBER_BYTES) && isFixed(positionPlace, POSITION_BYTES);
        }

        int partBytes(int place, int part) {
            return parts[place * PARTS + part];
        }

        void putPart(int place, int part, int n) {
            parts[place * PARTS + part] = n;
        }
    }

    /** The tape's bytes, 0 .. 255 each. */
    private static final class Tape {
        final int[] bytes;
        int size;

        Tape() {
            bytes = new int[TAPE_BYTES];
        }

        boolean hasRoom(int n) {
            return n <= TAPE_BYTES - size;
        }

        void put(int value) {
            if (size < TAPE_BYTES) {
                bytes[size] = value;
                size++;
            }
        }

        void putHead(int number, int length) {
            put(number);
            put(length >> 8);
            put(length & 0xFF);
        }

        void putAll(int[] from, int begin, int n) {
            for (int i = begin; i < begin + n && i < from.length; i++) {
                put(from[i]);
            }
        }

        void dropFirst(int n) {
            for (int i = n; i < size; i++) {
                bytes[i - n] = bytes[i];
            }
            size -= n;
        }
    }

    /** Passes over the tape's bytes from the left, as a table says, up to the first fault. */
    private static final class Reader {
        private final int[] bytes;
        Category table;
        int next;
        int end;
        int fault;
        int faultPlace;

        Reader(Tape tape) {
            bytes = tape.bytes;
        }

        void start(int size) {
            next = 0;
            end = size;
            fault = 0;
        }

        boolean hasMore() {
            return fault == 0 && next < end;
        }

        void fail(int number, int place) {
            if (fault == 0) {
                fault = number;
                faultPlace = place;
            }
        }

        void passRecord(Block block) {
            int from = next;
            int bits = passBits(RECORD_BITS);
            lookForPlaces(from, bits);
            int record = block.startRecord(from);
            for (int i = 0; i < bits && fault == 0; i++) {
                if (isOne(bytes, from, i)) {
                    int begin = next;
                    passItem(i + 1);
                    block.putItem(record, i + 1, begin, next - begin);
                }
            }
        }

        // Of a record beyond the last that there may be, only the first byte is looked at.
        void refuseRecord() {
            int first = bytes[next];
            if (first == 0) {
                fail(WRONG_BITS, next);
            }
            lookForPlaces(next, BITS_A_BYTE);
            fail(TOO_MANY, next);
        }

        void passItem(int place) {
            switch (table.kinds[place]) {
                case FIXED:
                    pass(table.sizes[place]);
                    break;
                case GOING:
                    passGoing();
                    break;
                case AGAIN:
                    passAgain(table.sizes[place]);
                    break;
                case MADE:
                    passMade(place);
                    break;
                default:
                    break;
            }
        }

        private void pass(int n) {
            if (n > end - next) {
                fail(BEHIND_END, end);
            } else {
                next += n;
            }
        }

        private void passGoing() {
            for (int i = 0; i < MOST_GOING; i++) {
                if (next >= end) {
                    fail(BEHIND_END, end);
                    return;
                }
                boolean goesOn = (bytes[next] & 1) == 1;
                if (goesOn && i == MOST_GOING - 1) {
                    fail(GOES_ON, next);
                    return;
                }
                next++;
                if (!goesOn) {
                    return;
                }
            }
        }

        private void passAgain(int n) {
            if (next >= end) {
                fail(BEHIND_END, end);
                return;
            }
            int times = bytes[next];
            if (times < 1 || times > MOST_TIMES) {
                fail(NO_TIMES, next);
                return;
            }
            next++;
            pass(times * n);
        }

        private void passMade(int place) {
            int from = next;
            int bits = passBits(MADE_BITS);
            for (int i = 0; i < bits && fault == 0; i++) {
                if (isOne(bytes, from, i) && table.partBytes(place, i) == 0) {
                    fail(NOT_THERE, from + i / BITS_A_BYTE);
                }
            }
            for (int i = 0; i < bits && fault == 0; i++) {
                if (isOne(bytes, from, i)) {
                    pass(table.partBytes(place, i));
                }
            }
        }

        // How many bits there are; 0 behind a fault.
        private int passBits(int most) {
            for (int i = 1; i <= most; i++) {
                if (next >= end) {
                    fail(BEHIND_END, end);
                    return 0;
                }
                int bits = bytes[next];
                boolean goesOn = (bits & 1) == 1;
                if (goesOn ? i == most : bits == 0) {
                    fail(WRONG_BITS, next);
                    return 0;
                }
                next++;
                if (!goesOn) {
                    return i * BITS_A_BYTE;
                }
            }
            return 0;
        }

        private void lookForPlaces(int from, int bits) {
            for (int i = 0; i < bits; i++) {
                if (isOne(bytes, from, i) && table.kinds[i + 1] == NONE) {
                    fail(NOT_THERE, from + i / BITS_A_BYTE);
                }
            }
        }
    }

    /** The records of a block, with the block's bytes as they were read. */
    private static final class Block {
        int category;
        int count;
        final int[] bytes;
        int size;
        final int[] starts;
        final int[] begins;
        final int[] sizes;

        Block() {
            category = NONE;
            bytes = new int[TAPE_BYTES];
            starts = new int[MOST_RECORDS];
            begins = new int[MOST_RECORDS * PLACES];
            sizes = new int[MOST_RECORDS * PLACES];
        }

        void clear() {
            count = 0;
            Arrays.fill(sizes, 0);
        }

        void keepBytes(int[] from, int n) {
            System.arraycopy(from, 0, bytes, 0, n);
            size = n;
        }

        int startRecord(int from) {
            starts[count] = from;
            count++;
            return count - 1;
        }

        void putItem(int record, int place, int begin, int n) {
            begins[slot(record, place)] = begin;
            sizes[slot(record, place)] = n;
        }

        int sizeOf(int record, int place) {
            return sizes[slot(record, place)];
        }

        int beginOf(int record, int place) {
            return sizeOf(record, place) == 0 ? NONE : begins[slot(record, place)];
        }

        int bytesOf(int record) {
            int stop = record + 1 < count ? starts[record + 1] : size;
            return stop - starts[record];
        }

        int bytesWithout(int without) {
            int sum = 0;
            for (int record = 0; record < count; record++) {
                if ((without >> record & 1) == 0) {
                    sum += bytesOf(record);
                }
            }
            return sum;
        }

        long joined(int begin, int n) {
            long sum = 0;
            for (int i = begin; i < begin + n && i < size; i++) {
                sum = sum << 8 | bytes[i];
            }
            return sum;
        }

        private static int slot(int record, int place) {
            return record * PLACES + place - 1;
        }
    }

    /** A record of one's own: each place has a row of its own for its item's bytes. */
    private static final class OwnRecord {
        int category;
        final int[] bytes;
        final int[] sizes;

        OwnRecord() {
            category = NONE;
            bytes = new int[PLACES * MOST_ITEM];
            sizes = new int[PLACES + 1];
        }

        static int rowOf(int place) {
            return (place - 1) * MOST_ITEM;
        }

        void startFor(int index) {
            category = index;
            Arrays.fill(sizes, 0);
        }

        void putItem(int place, int[] from, int n) {
            if (n <= MOST_ITEM) {
                System.arraycopy(from, 0, bytes, rowOf(place), n);
                sizes[place] = n;
            }
        }

        int lastPlace() {
            for (int place = PLACES; place >= 1; place--) {
                if (sizes[place] != 0) {
                    return place;
                }
            }
            return 0;
        }

        int itemBytes() {
            int sum = 0;
            for (int place = 1; place <= PLACES; place++) {
                sum += sizes[place];
            }
            return sum;
        }

        int bitsByte(int index, boolean isLast) {
            int bits = 0;
            for (int i = 1; i <= BITS_A_BYTE; i++) {
                int place = index * BITS_A_BYTE + i;
                bits = bits << 1 | (place <= PLACES && sizes[place] != 0 ? 1 : 0);
            }
            return bits << 1 | (isLast ? 0 : 1);
        }
    }

    /** The tracks, in the order in which they came; those beyond the size wait to be used. */
    private static final class TrackRow {
        final Track[] tracks;
        int size;
        int lost;
        int dropped;
        int ticks;

        TrackRow() {
            tracks = new Track[MOST_TRACKS];
            for (int i = 0; i < MOST_TRACKS; i++) {
                tracks[i] = new Track();
            }
        }

        int update(int number, int x, int y) {
            for (int i = 0; i < size; i++) {
                if (tracks[i].number == number) {
                    tracks[i].update(x, y);
                    return i;
                }
            }
            if (size >= MOST_TRACKS) {
                lost++;
                return NONE;
            }
            tracks[size].come(number, x, y);
            size++;
            return size - 1;
        }

        void passTick() {
            ticks++;
            int kept = 0;
            for (int i = 0; i < size; i++) {
                Track track = tracks[i];
                track.passTick();
                if (track.age < DROP_AGE) {
                    tracks[i] = tracks[kept];
                    tracks[kept] = track;
                    kept++;
                }
            }
            dropped += size - kept;
            size = kept;
        }
    }

    private static final class Track {
        int number;
        int x;
        int y;
        // Where it was as it was updated latest: coasting moves x and y alone.
        int reportedX;
        int reportedY;
        int speedX;
        int speedY;
        int age;
        int hits;

        void come(int itsNumber, int itsX, int itsY) {
            number = itsNumber;
            hits = 0;
            reportedX = itsX;
            reportedY = itsY;
            update(itsX, itsY);
        }

        // The age is how many ticks there were since the latest update.
        void update(int newX, int newY) {
            int ticks = Math.max(1, age);
            speedX = (newX - reportedX) / ticks;
            speedY = (newY - reportedY) / ticks;
            reportedX = newX;
            reportedY = newY;
            x = newX;
            y = newY;
            age = 0;
            hits++;
        }

        void passTick() {
            age++;
            if (age >= COAST_AGE && age < DROP_AGE) {
                x = (short) (x + speedX);
                y = (short) (y + speedY);
            }
        }
    }
}
