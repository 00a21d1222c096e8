import java.util.Arrays;

/**
 * A broker of records: producers send them in batches, which lie as bytes in logs on a disk that may
 * lose its power at any block. The document's promises say what each call answers.
 */
public final class BatchBroker {
    public static final int NONE = -1;
    public static final int FULL = -2;
    public static final int CUT = -3;
    public static final int FAULT = -4;
    public static final int LARGE = -5;
    public static final int FENCED = -6;
    public static final int GAP = -7;
    public static final int STRANGER = -8;
    public static final int OLD = -9;
    public static final int MIXED = -10;
    public static final int FOREIGN = -11;
    public static final int OUTSIDE = -12;

    private static final int BLOCK = 1024;
    private static final int HEAD = 61;
    private static final int TAPE_LIMIT = 16384;
    private static final int FETCH_LIMIT = 32768;
    private static final int DRAFT_LIMIT = 16000;
    private static final int COUNT_LIMIT = 1000;
    private static final int SEGMENT_LIMIT = 60;
    private static final int KNOWN_LIMIT = 5;
    private static final int NUMBERS_AT_ONCE = 100;
    private static final int TICK_LIMIT = 100000;
    private static final int CRASH_LIMIT = 1000;
    private static final long STAMP_LIMIT = 1L << 50;
    private static final long SEAL_LIMIT = 1L << 49;
    // Sequences are counted modulo 2^31: the lowest 31 bits of a sum are what is left of it.
    private static final int SEQUENCE_BITS = 0x7FFFFFFF;

    private final int logCount;
    private final byte[] tape = new byte[TAPE_LIMIT];
    private int tapeSize;
    private final Draft draft = new Draft();
    private final Examiner examiner = new Examiner();
    private final Fetched fetched = new Fetched();
    private final Disk disk;
    private final byte[] numberRow = new byte[8];
    private long nextNumber;
    private long reservedNumbers;
    private final Logs logs;
    private final Compactor compactor;
    private final Groups groups;

    public BatchBroker(int logs, int segment, int blocks) {
        int forProducers = Math.max(1, Math.min(logs, 8));
        Disk madeDisk = new Disk(Math.max(32, Math.min(blocks, 256)));
        Logs madeLogs = new Logs(madeDisk, forProducers, Math.max(1, Math.min(segment, 16)));
        logCount = forProducers;
        disk = madeDisk;
        this.logs = madeLogs;
        compactor = new Compactor(madeLogs);
        groups = new Groups(madeLogs);
    }

    // ---- the tape and the draft

    public int feed(int a, int b, int c, int d, int e) throws IllegalStateException {
        needState(tapeSize + 20 <= TAPE_LIMIT);
        Bytes.put(tape, tapeSize, 4, a);
        Bytes.put(tape, tapeSize + 4, 4, b);
        Bytes.put(tape, tapeSize + 8, 4, c);
        Bytes.put(tape, tapeSize + 12, 4, d);
        Bytes.put(tape, tapeSize + 16, 4, e);
        tapeSize += 20;
        return tapeSize;
    }

    public int trim(int n) throws IllegalArgumentException {
        needArguments(isWithin(n, 0, tapeSize));
        tapeSize -= n;
        return tapeSize;
    }

    public int spoil(int i, int x) throws IllegalArgumentException {
        needArguments(isWithin(i, 0, tapeSize - 1) && isWithin(x, 0, 255));
        tape[i] ^= (byte) x;
        return tape[i] & 255;
    }

    public int record(int n, long key, int keyBytes, long value, int valueBytes, int later)
            throws IllegalArgumentException, IllegalStateException {
        needArguments(isWithin(n, 1, 100) && isWithin(keyBytes, NONE, 8));
        needArguments(isWithin(valueBytes, NONE, 300) && isWithin(later, 0, 1000000));
        needState(draft.hasRoom(n, keyBytes, valueBytes, later));
        for (int i = 0; i < n; i++) {
            draft.add(key + i, keyBytes, value + i, valueBytes, later + i);
        }
        return draft.count;
    }

    public int seal(long producer, int epoch, int sequence, long time)
            throws IllegalArgumentException, IllegalStateException {
        needArguments(isWithin(time, 0, SEAL_LIMIT));
        int size = HEAD + draft.bytes;
        needState(tapeSize + size <= TAPE_LIMIT);
        int at = tapeSize;
        System.arraycopy(draft.row, 0, tape, at + HEAD, draft.bytes);
        long greatest = draft.count == 0 ? 0 : time + draft.latest;
        Batch.begin(tape, at, draft.count, time, greatest);
        Batch.sign(tape, at, producer, epoch, sequence);
        Batch.finish(tape, at, size);
        tapeSize += size;
        draft.clear();
        return tapeSize;
    }

    public int fault(int what) throws IllegalArgumentException {
        needArguments(isWithin(what, 0, 1));
        examiner.examine(tape, tapeSize);
        return what == 0 ? examiner.kind : examiner.place;
    }

    // ---- producers

    public long producer() throws IllegalStateException {
        needPower();
        if (nextNumber == reservedNumbers) {
            reservedNumbers += NUMBERS_AT_ONCE;
            Bytes.put(numberRow, 0, 8, reservedNumbers);
            if (!disk.write(0, numberRow, 0, 8)) {
                return CUT;
            }
        }
        nextNumber++;
        return nextNumber - 1;
    }

    public long produce(int log) throws IllegalArgumentException, IllegalStateException {
        needArguments(isForProducers(log));
        needPower();
        int size = tapeSize;
        tapeSize = 0;
        examiner.examine(tape, size);
        if (examiner.kind != 0) {
            return FAULT;
        }
        return logs.accept(logs.tables[log], tape, size);
    }

    public long known(int log, long producer, int what) throws IllegalArgumentException, IllegalStateException {
        needArguments(isLog(log) && producer >= 0 && isWithin(what, 0, 3));
        needPower();
        LogTable table = logs.tables[log];
        if (what == 0) {
            return logs.knownCount(table, producer);
        }
        int latest = logs.knownAt(table, producer, 0);
        if (latest == NONE) {
            return NONE;
        }
        switch (what) {
            case 1:
                return Batch.epochOf(disk.row, latest);
            case 2:
                return Batch.nextSequenceOf(disk.row, latest);
            default:
                return Batch.baseOf(disk.row, latest);
        }
    }

    // ---- logs

    public long log(int log, int what) throws IllegalArgumentException, IllegalStateException {
        needArguments(isLog(log) && isWithin(what, 0, 5));
        needPower();
        LogTable table = logs.tables[log];
        switch (what) {
            case 0:
                return table.start;
            case 1:
                return table.end;
            case 2:
                return table.segments;
            case 3:
                return table.batches;
            case 4:
                return logs.countRecords(table);
            default:
                return table.countBytes();
        }
    }

    public int fetch(int log, long offset, int most) throws IllegalArgumentException, IllegalStateException {
        needArguments(isWithin(most, 0, FETCH_LIMIT) && isLog(log));
        needPower();
        LogTable table = logs.tables[log];
        if (!table.holds(offset)) {
            return OUTSIDE;
        }
        fetched.clear();
        int i = logs.firstReaching(table, offset);
        while (i < table.batches && fetched.accepts(Batch.sizeOf(disk.row, table.at[i]), most)) {
            fetched.add(disk.row, table.at[i]);
            i++;
        }
        return fetched.size;
    }

    public int byteAt(int i) throws IllegalArgumentException {
        needArguments(isWithin(i, 0, fetched.size - 1));
        return fetched.row[i] & 255;
    }

    public long taken(int k, int what) throws IllegalArgumentException {
        needArguments(k >= 0 && isWithin(what, 0, 5) && fetched.turnTo(k));
        return fetched.tell(what);
    }

    public long find(int log, long time) throws IllegalArgumentException, IllegalStateException {
        needArguments(isLog(log));
        needPower();
        return logs.firstSince(logs.tables[log], time);
    }

    public int retain(int log, int bytes) throws IllegalArgumentException, IllegalStateException {
        needArguments(isForProducers(log) && bytes >= 0);
        needPower();
        return logs.dropDownTo(logs.tables[log], bytes);
    }

    public int compact(int log) throws IllegalArgumentException, IllegalStateException {
        needArguments(isLog(log));
        needPower();
        return compactor.run(logs.tables[log], groups.now);
    }

    // ---- groups

    public int join(int group, int member) throws IllegalArgumentException, IllegalStateException {
        needArguments(isOfEight(group) && isOfEight(member));
        needPower();
        return groups.enter(group, member);
    }

    public int leave(int group, int member) throws IllegalArgumentException, IllegalStateException {
        needArguments(isOfEight(group) && isOfEight(member));
        needPower();
        return groups.depart(group, member);
    }

    public int beat(int group, int member, int generation) throws IllegalArgumentException, IllegalStateException {
        needArguments(isOfEight(group) && isOfEight(member));
        needPower();
        return groups.hear(group, member, generation);
    }

    public int commit(int group, int member, int generation, int log, long offset)
            throws IllegalArgumentException, IllegalStateException {
        needArguments(isOfEight(group) && isOfEight(member) && isForProducers(log));
        needPower();
        int refused = groups.refusal(group, member, generation);
        if (refused != 0) {
            return refused;
        }
        return groups.commitOffset(group, member, log, offset);
    }

    public long committed(int group, int log) throws IllegalArgumentException, IllegalStateException {
        needArguments(isOfEight(group) && isForProducers(log));
        needPower();
        return groups.latestNote(group, log);
    }

    public int group(int group, int what) throws IllegalArgumentException, IllegalStateException {
        needArguments(isOfEight(group) && isWithin(what, 0, 4));
        needPower();
        switch (what) {
            case 0:
                return groups.generation[group];
            case 1:
                return groups.state[group];
            case 2:
                return groups.members[group];
            case 3:
                return groups.joined[group];
            default:
                return groups.ticksLeft(group);
        }
    }

    public int share(int group, int member) throws IllegalArgumentException, IllegalStateException {
        needArguments(isOfEight(group) && isOfEight(member));
        needPower();
        return groups.shareOf(group, member);
    }

    // ---- time and power

    public int ticks(int n) throws IllegalArgumentException, IllegalStateException {
        needArguments(isWithin(n, 1, 200));
        needPower();
        needState(groups.now + n <= TICK_LIMIT);
        for (int i = 0; i < n; i++) {
            if (!groups.tick()) {
                return CUT;
            }
        }
        return groups.now;
    }

    public int time() {
        return groups.now;
    }

    public void crash(int n) throws IllegalArgumentException, IllegalStateException {
        needArguments(isWithin(n, NONE, CRASH_LIMIT));
        needPower();
        disk.blocksLeft = n;
        disk.down = n == 0;
    }

    public int recover() {
        disk.down = false;
        disk.blocksLeft = NONE;
        reservedNumbers = Bytes.signed(disk.row, 0, 8);
        nextNumber = reservedNumbers;
        int batches = logs.load();
        groups.load();
        return batches;
    }

    public boolean isDown() {
        return disk.down;
    }

    public int writes() {
        return disk.written;
    }

    public int free() throws IllegalStateException {
        needPower();
        return logs.countFree();
    }

    public int audit() throws IllegalStateException {
        needPower();
        return logs.countFaults();
    }

    private static void needArguments(boolean fine) {
        if (!fine) {
            throw new IllegalArgumentException("an argument is out of its bounds");
        }
    }

    private static void needState(boolean fine) {
        if (!fine) {
            throw new IllegalStateException("the call is not possible now");
        }
    }

    private void needPower() {
        needState(!disk.down);
    }

    private static boolean isWithin(long number, long least, long most) {
        return number >= least && number <= most;
    }

    private static boolean isOfEight(int number) {
        return isWithin(number, 0, 7);
    }

    private boolean isLog(int log) {
        return isWithin(log, 0, logCount);
    }

    private boolean isForProducers(int log) {
        return isWithin(log, 0, logCount - 1);
    }

    /** Numbers in rows of bytes, the highest byte first, varints, and the checksum. */
    private static final class Bytes {
        // The checksum's eight steps for a byte are two times four; these are four steps for each low half.
        private static final int[] FOUR_STEPS = {
            0x00000000, 0x105EC76F, 0x20BD8EDE, 0x30E349B1, 0x417B1DBC, 0x5125DAD3, 0x61C69362, 0x7198540D,
            0x82F63B78, 0x92A8FC17, 0xA24BB5A6, 0xB21572C9, 0xC38D26C4, 0xD3D3E1AB, 0xE330A81A, 0xF36E6F75
        };

        static long unsigned(byte[] row, int at, int count) {
            long number = 0;
            for (int i = 0; i < count; i++) {
                number = number << 8 | row[at + i] & 255;
            }
            return number;
        }

        static long signed(byte[] row, int at, int count) {
            int spare = 64 - 8 * count;
            return unsigned(row, at, count) << spare >> spare;
        }

        static void put(byte[] row, int at, int count, long number) {
            for (int i = 0; i < count; i++) {
                row[at + i] = (byte) (number >> 8 * (count - 1 - i));
            }
        }

        static int varintBytes(long number) {
            long rest = turned(number) >>> 7;
            int count = 1;
            for (int i = 0; i < 9 && rest != 0; i++) {
                rest >>>= 7;
                count++;
            }
            return count;
        }

        static int putVarint(byte[] row, int at, long number) {
            long rest = turned(number);
            int count = varintBytes(number);
            for (int i = 0; i < count; i++) {
                row[at + i] = (byte) (i < count - 1 ? rest & 127 | 128 : rest);
                rest >>>= 7;
            }
            return at + count;
        }

        private static long turned(long number) {
            return number << 1 ^ number >> 63;
        }

        static int checksum(byte[] row, int from, int to) {
            int c = -1;
            for (int i = from; i < to; i++) {
                c ^= row[i] & 255;
                c = c >>> 4 ^ FOUR_STEPS[c & 15];
                c = c >>> 4 ^ FOUR_STEPS[c & 15];
            }
            return ~c;
        }
    }

    /** The head of a batch that lies in a row of bytes from some place on. */
    private static final class Batch {
        static long baseOf(byte[] row, int at) {
            return Bytes.signed(row, at, 8);
        }

        static int sizeOf(byte[] row, int at) {
            return 12 + (int) Bytes.signed(row, at + 8, 4);
        }

        static int lastOf(byte[] row, int at) {
            return (int) Bytes.signed(row, at + 23, 4);
        }

        static long firstTimeOf(byte[] row, int at) {
            return Bytes.signed(row, at + 27, 8);
        }

        static long greatestTimeOf(byte[] row, int at) {
            return Bytes.signed(row, at + 35, 8);
        }

        static long producerOf(byte[] row, int at) {
            return Bytes.signed(row, at + 43, 8);
        }

        static int epochOf(byte[] row, int at) {
            return (int) Bytes.signed(row, at + 51, 2);
        }

        static int sequenceOf(byte[] row, int at) {
            return (int) Bytes.signed(row, at + 53, 4);
        }

        static int countOf(byte[] row, int at) {
            return (int) Bytes.signed(row, at + 57, 4);
        }

        static int nextSequenceOf(byte[] row, int at) {
            return sequenceOf(row, at) + lastOf(row, at) + 1 & SEQUENCE_BITS;
        }

        static boolean hasTrueChecksum(byte[] row, int at, int size) {
            return (int) Bytes.signed(row, at + 17, 4) == Bytes.checksum(row, at + 21, at + size);
        }

        static void begin(byte[] row, int at, int count, long firstTime, long greatestTime) {
            Arrays.fill(row, at, at + HEAD, (byte) 0);
            row[at + 16] = 2;
            Bytes.put(row, at + 23, 4, count - 1);
            Bytes.put(row, at + 27, 8, firstTime);
            Bytes.put(row, at + 35, 8, greatestTime);
            Bytes.put(row, at + 57, 4, count);
        }

        static void sign(byte[] row, int at, long producer, int epoch, int sequence) {
            Bytes.put(row, at + 43, 8, producer);
            Bytes.put(row, at + 51, 2, epoch);
            Bytes.put(row, at + 53, 4, sequence);
        }

        static void recount(byte[] row, int at, int count, long greatestTime) {
            Bytes.put(row, at + 35, 8, greatestTime);
            Bytes.put(row, at + 57, 4, count);
        }

        static void finish(byte[] row, int at, int size) {
            Bytes.put(row, at + 8, 4, size - 12);
            Bytes.put(row, at + 17, 4, Bytes.checksum(row, at + 21, at + size));
        }
    }

    /** One record, read from a row of bytes; made once and turned to one record after the other. */
    private static final class RecordView {
        long timeAfter;
        long offsetAfter;
        int keyAt;
        int keyBytes;
        int valueAt;
        int valueBytes;
        int end;
        private boolean sound;

        /** Whether the record that begins there is formed as it must be and ends before the limit. */
        boolean read(byte[] row, int from, int limit) {
            sound = true;
            end = from;
            long length = readVarint(row, limit);
            if (!sound || length < 0 || length > limit - end) {
                return false;
            }
            int stop = end + (int) length;
            readZero(row, stop);
            timeAfter = readVarint(row, stop);
            offsetAfter = readVarint(row, stop);
            keyBytes = readText(row, stop);
            keyAt = end - Math.max(keyBytes, 0);
            valueBytes = readText(row, stop);
            valueAt = end - Math.max(valueBytes, 0);
            readZero(row, stop);
            return sound && end == stop;
        }

        private void readZero(byte[] row, int stop) {
            if (end < stop && row[end] == 0) {
                end++;
            } else {
                sound = false;
            }
        }

        private int readText(byte[] row, int stop) {
            long count = readVarint(row, stop);
            if (count < NONE || count > stop - end) {
                sound = false;
                return NONE;
            }
            end += (int) Math.max(count, 0);
            return (int) count;
        }

        private long readVarint(byte[] row, int stop) {
            long number = 0;
            for (int i = 0; i < 10 && end < stop; i++) {
                int piece = row[end];
                end++;
                number |= (long) (piece & 127) << 7 * i;
                if (piece >= 0) {
                    boolean needless = i > 0 && piece == 0;
                    boolean tooGreat = i == 9 && piece != 1;
                    sound = sound && !needless && !tooGreat;
                    return number >>> 1 ^ -(number & 1);
                }
            }
            sound = false;
            return 0;
        }
    }

    /** Records in the very bytes that they have in a batch: those tell times and offsets as differences alone. */
    private static final class Draft {
        final byte[] row = new byte[DRAFT_LIMIT];
        int bytes;
        int count;
        int latest;

        boolean hasRoom(int n, int keyBytes, int valueBytes, int later) {
            if (count + n > COUNT_LIMIT) {
                return false;
            }
            int all = bytes;
            for (int i = 0; i < n; i++) {
                int body = bodyBytes(later + i, count + i, keyBytes, valueBytes);
                all += Bytes.varintBytes(body) + body;
            }
            return all <= DRAFT_LIMIT;
        }

        void add(long key, int keyBytes, long value, int valueBytes, int later) {
            int at = Bytes.putVarint(row, bytes, bodyBytes(later, count, keyBytes, valueBytes));
            row[at] = 0;
            at = Bytes.putVarint(row, at + 1, later);
            at = Bytes.putVarint(row, at, count);
            at = Bytes.putVarint(row, at, keyBytes);
            Bytes.put(row, at, keyBytes, key);
            at = Bytes.putVarint(row, at + Math.max(keyBytes, 0), valueBytes);
            for (int j = 0; j < valueBytes; j++) {
                row[at + j] = (byte) (value >> 8 * (j % 8));
            }
            at += Math.max(valueBytes, 0);
            row[at] = 0;
            bytes = at + 1;
            count++;
            latest = Math.max(latest, later);
        }

        void clear() {
            bytes = 0;
            count = 0;
            latest = 0;
        }

        private static int bodyBytes(int later, int number, int keyBytes, int valueBytes) {
            int differences = Bytes.varintBytes(later) + Bytes.varintBytes(number);
            int key = Bytes.varintBytes(keyBytes) + Math.max(keyBytes, 0);
            int value = Bytes.varintBytes(valueBytes) + Math.max(valueBytes, 0);
            return 1 + differences + key + value + 1;
        }
    }

    /** Finds the first fault of bytes that shall be a batch. */
    private static final class Examiner {
        private static final int LENGTH_FAULT = 1;
        private static final int FIELD_FAULT = 2;
        private static final int CHECKSUM_FAULT = 3;
        private static final int RECORD_FAULT = 4;
        private static final int TIME_FAULT = 5;

        int kind;
        int place;
        private final RecordView view = new RecordView();

        void examine(byte[] row, int size) {
            tell(0, NONE);
            if (size < HEAD || Batch.sizeOf(row, 0) != size) {
                tell(LENGTH_FAULT, 8);
                return;
            }
            int field = wrongField(row);
            if (field != NONE) {
                tell(FIELD_FAULT, field);
            } else if (!Batch.hasTrueChecksum(row, 0, size)) {
                tell(CHECKSUM_FAULT, 17);
            } else {
                examineRecords(row, size);
            }
        }

        private void tell(int kind, int place) {
            this.kind = kind;
            this.place = place;
        }

        private static int wrongField(byte[] row) {
            long count = Batch.countOf(row, 0);
            long producer = Batch.producerOf(row, 0);
            if (Batch.baseOf(row, 0) != 0) {
                return 0;
            }
            if (Bytes.signed(row, 12, 4) != 0) {
                return 12;
            }
            if (row[16] != 2) {
                return 16;
            }
            if (Bytes.signed(row, 21, 2) != 0) {
                return 21;
            }
            if (Batch.lastOf(row, 0) != count - 1) {
                return 23;
            }
            if (!isWithin(Batch.firstTimeOf(row, 0), 0, STAMP_LIMIT)) {
                return 27;
            }
            if (!isWithin(Batch.greatestTimeOf(row, 0), 0, STAMP_LIMIT)) {
                return 35;
            }
            if (!isWithin(producer, NONE, STAMP_LIMIT)) {
                return 43;
            }
            if (!isProducersNumber(producer, Batch.epochOf(row, 0))) {
                return 51;
            }
            if (!isProducersNumber(producer, Batch.sequenceOf(row, 0))) {
                return 53;
            }
            return isWithin(count, 1, COUNT_LIMIT) ? NONE : 57;
        }

        private static boolean isProducersNumber(long producer, int number) {
            return producer == NONE ? number == NONE : number >= 0;
        }

        private void examineRecords(byte[] row, int size) {
            int count = Batch.countOf(row, 0);
            long firstTime = Batch.firstTimeOf(row, 0);
            long greatest = 0;
            int at = HEAD;
            for (int k = 0; k < count; k++) {
                // firstTime is 0 .. 2^50: a sum that wraps comes out below 0, and so is refused as well
                if (!view.read(row, at, size) || view.offsetAfter != k
                        || !isWithin(firstTime + view.timeAfter, 0, STAMP_LIMIT)) {
                    tell(RECORD_FAULT, at);
                    return;
                }
                greatest = Math.max(greatest, firstTime + view.timeAfter);
                at = view.end;
            }
            if (at < size) {
                tell(RECORD_FAULT, at);
            } else if (greatest != Batch.greatestTimeOf(row, 0)) {
                tell(TIME_FAULT, 35);
            }
        }
    }

    /** Blocks of bytes; the power fails behind a whole block, never within one. */
    private static final class Disk {
        final byte[] row;
        int written;
        int blocksLeft = NONE;
        boolean down;

        Disk(int blocks) {
            row = new byte[blocks * BLOCK];
        }

        int blocks() {
            return row.length / BLOCK;
        }

        /** Writes the blocks in which the bytes lie, in their order; whether the power is still there. */
        boolean write(int place, byte[] from, int at, int count) {
            int done = 0;
            while (done < count && !down) {
                int piece = Math.min(count - done, BLOCK - (place + done) % BLOCK);
                System.arraycopy(from, at + done, row, place + done, piece);
                done += piece;
                written++;
                if (blocksLeft > 0) {
                    blocksLeft--;
                    down = blocksLeft == 0;
                }
            }
            return !down;
        }
    }

    /** What the broker holds of one log: its segments, and where on the disk each batch begins. */
    private static final class LogTable {
        final int headBlock;
        long start;
        long end;
        int segments;
        final int[] block = new int[SEGMENT_LIMIT];
        final int[] bytes = new int[SEGMENT_LIMIT];
        final int[] held = new int[SEGMENT_LIMIT];
        int batches;
        final int[] at;

        LogTable(int headBlock, int mostBatches) {
            this.headBlock = headBlock;
            at = new int[mostBatches];
        }

        boolean holds(long offset) {
            return isWithin(offset, start, end);
        }

        long countBytes() {
            long all = 0;
            for (int s = 0; s < segments; s++) {
                all += bytes[s];
            }
            return all;
        }

        void clear() {
            segments = 0;
            batches = 0;
        }

        void addSegment(int firstBlock) {
            block[segments] = firstBlock;
            bytes[segments] = 0;
            held[segments] = 0;
            segments++;
        }

        /** Where a batch comes to lie behind the others in the last segment. */
        int addBatch(int size) {
            int last = segments - 1;
            int place = block[last] * BLOCK + bytes[last];
            at[batches] = place;
            batches++;
            bytes[last] += size;
            held[last]++;
            return place;
        }

        void dropFirst(int count) {
            int gone = 0;
            for (int s = 0; s < count; s++) {
                gone += held[s];
            }
            System.arraycopy(at, gone, at, 0, batches - gone);
            batches -= gone;
            System.arraycopy(block, count, block, 0, segments - count);
            System.arraycopy(bytes, count, bytes, 0, segments - count);
            System.arraycopy(held, count, held, 0, segments - count);
            segments -= count;
        }
    }

    /** All logs, with the broker's own one last. */
    private static final class Logs {
        final Disk disk;
        final LogTable[] tables;
        final int segmentBlocks;
        private final int firstBlock;
        private final byte[] uses;
        private final byte[] headRow = new byte[20 + 8 * SEGMENT_LIMIT];
        private final RecordView view = new RecordView();

        Logs(Disk disk, int forProducers, int segmentBlocks) {
            this.disk = disk;
            this.segmentBlocks = segmentBlocks;
            tables = new LogTable[forProducers + 1];
            for (int i = 0; i <= forProducers; i++) {
                tables[i] = new LogTable(1 + i, disk.row.length / HEAD);
            }
            firstBlock = forProducers + 2;
            uses = new byte[disk.blocks()];
        }

        LogTable own() {
            return tables[tables.length - 1];
        }

        /** The answer to a batch without fault. */
        long accept(LogTable table, byte[] batch, int size) {
            if (size > segmentBlocks * BLOCK) {
                return LARGE;
            }
            long answer = answerAsKnown(table, batch);
            return answer == NONE ? append(table, batch, size) : answer;
        }

        /** NONE if what the log knows of the producer does not keep the batch from being appended. */
        private long answerAsKnown(LogTable table, byte[] batch) {
            long producer = Batch.producerOf(batch, 0);
            int latest = knownAt(table, producer, 0);
            if (latest == NONE) {
                return NONE;
            }
            int epoch = Batch.epochOf(batch, 0);
            int latestEpoch = Batch.epochOf(disk.row, latest);
            if (epoch < latestEpoch) {
                return FENCED;
            }
            for (int rank = 0; rank < KNOWN_LIMIT; rank++) {
                int place = knownAt(table, producer, rank);
                if (place != NONE && isSentAgain(batch, place)) {
                    return Batch.baseOf(disk.row, place);
                }
            }
            int due = epoch == latestEpoch ? Batch.nextSequenceOf(disk.row, latest) : 0;
            return Batch.sequenceOf(batch, 0) == due ? NONE : GAP;
        }

        private boolean isSentAgain(byte[] batch, int place) {
            return Batch.epochOf(batch, 0) == Batch.epochOf(disk.row, place)
                    && Batch.sequenceOf(batch, 0) == Batch.sequenceOf(disk.row, place)
                    && Batch.lastOf(batch, 0) == Batch.lastOf(disk.row, place);
        }

        /** Where a producer's latest batch lies (rank 0), or an earlier one; NONE for one that is not known. */
        int knownAt(LogTable table, long producer, int rank) {
            if (producer == NONE || rank >= KNOWN_LIMIT) {
                return NONE;
            }
            int later = 0;
            for (int i = table.batches - 1; i >= 0; i--) {
                if (Batch.producerOf(disk.row, table.at[i]) == producer) {
                    if (later == rank) {
                        return table.at[i];
                    }
                    later++;
                }
            }
            return NONE;
        }

        int knownCount(LogTable table, long producer) {
            int count = 0;
            while (count < KNOWN_LIMIT && knownAt(table, producer, count) != NONE) {
                count++;
            }
            return count;
        }

        boolean isKnown(LogTable table, int place) {
            long producer = Batch.producerOf(disk.row, place);
            for (int rank = 0; rank < KNOWN_LIMIT; rank++) {
                if (knownAt(table, producer, rank) == place) {
                    return true;
                }
            }
            return false;
        }

        long append(LogTable table, byte[] batch, int size) {
            if (!hasOpenRoom(table, size)) {
                countUses();
                int first = table.segments < SEGMENT_LIMIT ? takeSegment() : NONE;
                if (first == NONE) {
                    return FULL;
                }
                table.addSegment(first);
            }
            long base = table.end;
            Bytes.put(batch, 0, 8, base);
            table.end += Batch.countOf(batch, 0);
            int place = table.addBatch(size);
            boolean there = disk.write(place, batch, 0, size) && writeHead(table);
            return there ? base : CUT;
        }

        private boolean hasOpenRoom(LogTable table, int size) {
            int open = table.segments - 1;
            return open >= 0 && table.bytes[open] + size <= segmentBlocks * BLOCK;
        }

        void countUses() {
            Arrays.fill(uses, (byte) 0);
            for (LogTable table : tables) {
                for (int s = 0; s < table.segments; s++) {
                    markSegment(table.block[s]);
                }
            }
        }

        private void markSegment(int first) {
            for (int b = first; b < first + segmentBlocks && b < uses.length; b++) {
                uses[b]++;
            }
        }

        /** The foremost blocks that no segment uses, used from now on (until the uses are counted anew). */
        int takeSegment() {
            int inRow = 0;
            for (int b = firstBlock; b < uses.length; b++) {
                inRow = uses[b] == 0 ? inRow + 1 : 0;
                if (inRow == segmentBlocks) {
                    int first = b - segmentBlocks + 1;
                    markSegment(first);
                    return first;
                }
            }
            return NONE;
        }

        boolean writeHead(LogTable table) {
            fillHeadRow(table);
            return disk.write(table.headBlock * BLOCK, headRow, 0, headRow.length);
        }

        private void fillHeadRow(LogTable table) {
            Arrays.fill(headRow, (byte) 0);
            Bytes.put(headRow, 0, 8, table.start);
            Bytes.put(headRow, 8, 8, table.end);
            Bytes.put(headRow, 16, 4, table.segments);
            for (int s = 0; s < table.segments; s++) {
                Bytes.put(headRow, 20 + 8 * s, 4, table.block[s]);
                Bytes.put(headRow, 24 + 8 * s, 4, table.bytes[s]);
            }
        }

        /** How many batches there are in all logs, read from the disk. */
        int load() {
            int batches = 0;
            for (LogTable table : tables) {
                loadTable(table);
                batches += table.batches;
            }
            return batches;
        }

        private void loadTable(LogTable table) {
            int head = table.headBlock * BLOCK;
            table.clear();
            table.start = Bytes.signed(disk.row, head, 8);
            table.end = Bytes.signed(disk.row, head + 8, 8);
            int segments = Math.min((int) Bytes.signed(disk.row, head + 16, 4), SEGMENT_LIMIT);
            for (int s = 0; s < segments; s++) {
                table.addSegment((int) Bytes.signed(disk.row, head + 20 + 8 * s, 4));
                loadSegment(table, (int) Bytes.signed(disk.row, head + 24 + 8 * s, 4));
            }
        }

        private void loadSegment(LogTable table, int bytes) {
            int first = table.block[table.segments - 1] * BLOCK;
            int done = 0;
            while (done < bytes && table.batches < table.at.length) {
                int size = Math.max(HEAD, Batch.sizeOf(disk.row, first + done));
                table.addBatch(size);
                done += size;
            }
        }

        long countRecords(LogTable table) {
            long records = 0;
            for (int i = 0; i < table.batches; i++) {
                records += Batch.countOf(disk.row, table.at[i]);
            }
            return records;
        }

        int firstReaching(LogTable table, long offset) {
            int i = 0;
            while (i < table.batches && greatestOffset(table.at[i]) < offset) {
                i++;
            }
            return i;
        }

        private long greatestOffset(int place) {
            int count = Batch.countOf(disk.row, place);
            int last = Batch.lastOf(disk.row, place);
            boolean isTold = count == 0 || count == last + 1;
            return Batch.baseOf(disk.row, place) + (isTold ? last : lastOffsetLeft(place, count));
        }

        /** Compaction may have taken a batch's last record, while LAST stays. */
        private long lastOffsetLeft(int place, int count) {
            int limit = place + Batch.sizeOf(disk.row, place);
            long after = 0;
            int at = place + HEAD;
            for (int k = 0; k < count && view.read(disk.row, at, limit); k++) {
                after = view.offsetAfter;
                at = view.end;
            }
            return after;
        }

        /** The least offset of a record with such a time or a greater one. */
        long firstSince(LogTable table, long time) {
            for (int i = 0; i < table.batches; i++) {
                if (Batch.greatestTimeOf(disk.row, table.at[i]) >= time) {
                    long offset = firstSinceIn(table.at[i], time);
                    if (offset != NONE) {
                        return offset;
                    }
                }
            }
            return NONE;
        }

        private long firstSinceIn(int place, long time) {
            int count = Batch.countOf(disk.row, place);
            int limit = place + Batch.sizeOf(disk.row, place);
            long firstTime = Batch.firstTimeOf(disk.row, place);
            int at = place + HEAD;
            for (int k = 0; k < count && view.read(disk.row, at, limit); k++) {
                if (firstTime + view.timeAfter >= time) {
                    return Batch.baseOf(disk.row, place) + view.offsetAfter;
                }
                at = view.end;
            }
            return NONE;
        }

        /** Retention: how many segments went. */
        int dropDownTo(LogTable table, int bytes) {
            long rest = table.countBytes();
            int gone = 0;
            while (gone < table.segments - 1 && rest - table.bytes[gone] >= bytes) {
                rest -= table.bytes[gone];
                gone++;
            }
            if (gone == 0) {
                return 0;
            }
            table.dropFirst(gone);
            table.start = table.batches > 0 ? Batch.baseOf(disk.row, table.at[0]) : table.end;
            return writeHead(table) ? gone : CUT;
        }

        int countFree() {
            countUses();
            int blocks = 0;
            for (int b = firstBlock; b < uses.length; b++) {
                if (uses[b] == 0) {
                    blocks++;
                }
            }
            return blocks;
        }

        int countFaults() {
            int faults = 0;
            for (LogTable table : tables) {
                faults += headFaults(table) + batchFaults(table);
            }
            countUses();
            for (int b = 0; b < uses.length; b++) {
                if (uses[b] > (b < firstBlock ? 0 : 1)) {
                    faults++;
                }
            }
            return faults;
        }

        private int headFaults(LogTable table) {
            fillHeadRow(table);
            int head = table.headBlock * BLOCK;
            for (int i = 0; i < headRow.length; i++) {
                if (headRow[i] != disk.row[head + i]) {
                    return 1;
                }
            }
            return 0;
        }

        private int batchFaults(LogTable table) {
            int faults = 0;
            int i = 0;
            long due = table.start;
            for (int s = 0; s < table.segments; s++) {
                int place = table.block[s] * BLOCK;
                int limit = place + table.bytes[s];
                for (int k = 0; k < table.held[s] && i < table.batches; k++) {
                    int size = Batch.sizeOf(disk.row, table.at[i]);
                    boolean lies = table.at[i] == place && size >= HEAD && size <= limit - place;
                    if (!lies || !Batch.hasTrueChecksum(disk.row, place, size) || !isInOrder(table, place, due)) {
                        faults++;
                    }
                    due = Batch.baseOf(disk.row, table.at[i]) + Batch.lastOf(disk.row, table.at[i]) + 1;
                    place = table.at[i] + size;
                    i++;
                }
                if (place != limit) {
                    faults++;
                }
            }
            return faults;
        }

        private boolean isInOrder(LogTable table, int place, long due) {
            long base = Batch.baseOf(disk.row, place);
            return base >= due && base + Batch.lastOf(disk.row, place) < table.end;
        }
    }

    /** Takes superseded records out of a log's closed segments. */
    private static final class Compactor {
        private static final int TOMB_TICKS = 1000;
        private static final int LEAST_RECORD = 7;

        private final Logs logs;
        private final byte[] disk;
        private final RecordView view = new RecordView();
        // For each key the place of the latest one, found by its checksum.
        private final int[] keyAt;
        private final int[] keyBytes;
        private int slots;
        // The batches that stay, one behind the other, before any block is written: FULL must change nothing.
        private final byte[] stage;
        private int staged;
        private int kept;
        private int segments;
        private final int[] block = new int[SEGMENT_LIMIT];
        private final int[] bytes = new int[SEGMENT_LIMIT];
        private final int[] held = new int[SEGMENT_LIMIT];

        Compactor(Logs logs) {
            this.logs = logs;
            disk = logs.disk.row;
            int mostSlots = 2 * (disk.length / LEAST_RECORD) + 1;
            keyAt = new int[mostSlots];
            keyBytes = new int[mostSlots];
            stage = new byte[disk.length];
        }

        /** How many records went; FULL; CUT. */
        int run(LogTable table, int now) {
            int closed = table.segments < 2 ? 0 : table.batches - table.held[table.segments - 1];
            if (closed == 0) {
                return 0;
            }
            noteLatestKeys(table);
            staged = 0;
            segments = 0;
            int goneRecords = 0;
            int goneBatches = 0;
            for (int i = 0; i < closed; i++) {
                int size = stageKept(table.at[i], now);
                goneRecords += Batch.countOf(disk, table.at[i]) - kept;
                if (kept == 0 && !logs.isKnown(table, table.at[i])) {
                    goneBatches++;
                } else {
                    keepStaged(size);
                }
            }
            if (goneRecords == 0 && goneBatches == 0) {
                return 0;
            }
            if (!findRoom()) {
                return FULL;
            }
            return write(table) ? goneRecords : CUT;
        }

        private void noteLatestKeys(LogTable table) {
            slots = (int) Math.min(2 * logs.countRecords(table) + 1, keyAt.length);
            Arrays.fill(keyAt, 0, slots, NONE);
            for (int i = 0; i < table.batches; i++) {
                int count = Batch.countOf(disk, table.at[i]);
                int limit = table.at[i] + Batch.sizeOf(disk, table.at[i]);
                int at = table.at[i] + HEAD;
                for (int k = 0; k < count && view.read(disk, at, limit); k++) {
                    if (view.keyBytes != NONE) {
                        int slot = slotOfKey();
                        keyAt[slot] = view.keyAt;
                        keyBytes[slot] = view.keyBytes;
                    }
                    at = view.end;
                }
            }
        }

        private int slotOfKey() {
            int slot = Math.floorMod(Bytes.checksum(disk, view.keyAt, view.keyAt + view.keyBytes), slots);
            for (int i = 0; i < slots && keyAt[slot] != NONE && !isKeyOf(slot); i++) {
                slot = slot + 1 < slots ? slot + 1 : 0;
            }
            return slot;
        }

        private boolean isKeyOf(int slot) {
            if (keyBytes[slot] != view.keyBytes) {
                return false;
            }
            for (int i = 0; i < view.keyBytes; i++) {
                if (disk[keyAt[slot] + i] != disk[view.keyAt + i]) {
                    return false;
                }
            }
            return true;
        }

        private boolean goes(long firstTime, int now) {
            if (view.keyBytes == NONE) {
                return false;
            }
            boolean old = firstTime + view.timeAfter <= now - TOMB_TICKS;
            return keyAt[slotOfKey()] != view.keyAt || view.valueBytes == NONE && old;
        }

        /** Puts what is left of a batch on the stage, behind what stays: how many bytes it has then. */
        private int stageKept(int place, int now) {
            int count = Batch.countOf(disk, place);
            int limit = place + Batch.sizeOf(disk, place);
            long firstTime = Batch.firstTimeOf(disk, place);
            long greatest = 0;
            int size = HEAD;
            int at = place + HEAD;
            kept = 0;
            System.arraycopy(disk, place, stage, staged, HEAD);
            for (int k = 0; k < count && view.read(disk, at, limit); k++) {
                if (!goes(firstTime, now)) {
                    System.arraycopy(disk, at, stage, staged + size, view.end - at);
                    size += view.end - at;
                    greatest = Math.max(greatest, firstTime + view.timeAfter);
                    kept++;
                }
                at = view.end;
            }
            Batch.recount(stage, staged, kept, kept == 0 ? Batch.greatestTimeOf(disk, place) : greatest);
            Batch.finish(stage, staged, size);
            return size;
        }

        // The batches lay in the same order before and none has grown: they fill no more segments than they did.
        private void keepStaged(int size) {
            if (segments == 0 || bytes[segments - 1] + size > logs.segmentBlocks * BLOCK) {
                bytes[segments] = 0;
                held[segments] = 0;
                segments++;
            }
            bytes[segments - 1] += size;
            held[segments - 1]++;
            staged += size;
        }

        private boolean findRoom() {
            logs.countUses();
            for (int s = 0; s < segments; s++) {
                block[s] = logs.takeSegment();
                if (block[s] == NONE) {
                    return false;
                }
            }
            return true;
        }

        private boolean write(LogTable table) {
            int from = 0;
            for (int s = 0; s < segments; s++) {
                if (!logs.disk.write(block[s] * BLOCK, stage, from, bytes[s])) {
                    return false;
                }
                from += bytes[s];
            }
            replaceClosed(table);
            return logs.writeHead(table);
        }

        private void replaceClosed(LogTable table) {
            int open = table.segments - 1;
            int openBlock = table.block[open];
            int openHeld = table.held[open];
            int openFrom = table.batches - openHeld;
            table.clear();
            int from = 0;
            for (int s = 0; s < segments; s++) {
                table.addSegment(block[s]);
                for (int k = 0; k < held[s]; k++) {
                    int size = Batch.sizeOf(stage, from);
                    table.addBatch(size);
                    from += size;
                }
            }
            table.addSegment(openBlock);
            for (int k = 0; k < openHeld; k++) {
                table.addBatch(Batch.sizeOf(disk, table.at[openFrom + k]));
            }
        }
    }

    /** A copy of batches that were read, so that it outlives what they were read from. */
    private static final class Fetched {
        final byte[] row = new byte[FETCH_LIMIT];
        int size;
        private int batches;
        private final int[] at = new int[FETCH_LIMIT / HEAD + 1];
        private int turnedBatch;
        private final RecordView view = new RecordView();

        void clear() {
            size = 0;
            batches = 0;
        }

        boolean accepts(int bytes, int most) {
            return batches == 0 || size + bytes <= most;
        }

        void add(byte[] from, int place) {
            int bytes = Batch.sizeOf(from, place);
            System.arraycopy(from, place, row, size, bytes);
            at[batches] = size;
            batches++;
            size += bytes;
        }

        /** Reads record k of all; false if there is none such. */
        boolean turnTo(int k) {
            int left = k;
            for (int i = 0; i < batches; i++) {
                int count = Batch.countOf(row, at[i]);
                if (left < count) {
                    turnedBatch = at[i];
                    return readOne(left);
                }
                left -= count;
            }
            return false;
        }

        private boolean readOne(int k) {
            view.end = turnedBatch + HEAD;
            boolean there = true;
            for (int i = 0; i <= k && there; i++) {
                there = view.read(row, view.end, size);
            }
            return there;
        }

        long tell(int what) {
            switch (what) {
                case 0:
                    return Batch.baseOf(row, turnedBatch) + view.offsetAfter;
                case 1:
                    return Batch.firstTimeOf(row, turnedBatch) + view.timeAfter;
                case 2:
                    return view.keyBytes;
                case 3:
                    return Bytes.unsigned(row, view.keyAt, Math.min(view.keyBytes, 8));
                case 4:
                    return view.valueBytes;
                default:
                    return Bytes.unsigned(row, view.valueAt, Math.min(view.valueBytes, 8));
            }
        }
    }

    /** The groups, the time that they live by, and their notes in the broker's own log. */
    private static final class Groups {
        private static final int EIGHT = 8;
        private static final int EMPTY = 0;
        private static final int MIXING = 1;
        private static final int STABLE = 2;
        private static final int MIXING_TICKS = 20;
        private static final int SILENT_TICKS = 30;
        private static final int OF_GENERATION = 255;
        private static final int NOTE_BYTES = 78;
        private static final int NOTE_KEY = 66;
        private static final int NOTE_VALUE = 69;

        int now;
        final int[] generation = new int[EIGHT];
        final int[] state = new int[EIGHT];
        final int[] members = new int[EIGHT];
        final int[] joined = new int[EIGHT];
        private final int[] limit = new int[EIGHT];
        private final int[] heard = new int[EIGHT * EIGHT];
        private final Logs logs;
        private final byte[] note = new byte[NOTE_BYTES];

        Groups(Logs logs) {
            this.logs = logs;
        }

        void load() {
            for (int g = 0; g < EIGHT; g++) {
                makeEmpty(g);
                generation[g] = (int) Math.max(0, latestNote(g, OF_GENERATION));
            }
        }

        int enter(int group, int member) {
            if (state[group] != MIXING) {
                mix(group);
            }
            members[group] |= 1 << member;
            joined[group] |= 1 << member;
            heard[group * EIGHT + member] = now;
            if (!settle(group)) {
                return CUT;
            }
            return state[group] == STABLE ? generation[group] : NONE;
        }

        int depart(int group, int member) {
            if (!hasMember(group, member)) {
                return STRANGER;
            }
            members[group] &= ~(1 << member);
            joined[group] &= ~(1 << member);
            if (members[group] == 0) {
                makeEmpty(group);
            } else if (state[group] == STABLE) {
                mix(group);
            }
            return settle(group) ? 1 : CUT;
        }

        int hear(int group, int member, int told) {
            int refused = refusal(group, member, told);
            if (refused != 0) {
                return refused;
            }
            heard[group * EIGHT + member] = now;
            return (joined[group] >> member & 1) == 1 ? 0 : 1;
        }

        /** STRANGER or OLD, or 0 for a member that tells the group's generation. */
        int refusal(int group, int member, int told) {
            if (!hasMember(group, member)) {
                return STRANGER;
            }
            return told == generation[group] ? 0 : OLD;
        }

        int commitOffset(int group, int member, int log, long offset) {
            if (state[group] != STABLE) {
                return MIXED;
            }
            if ((shareOf(group, member) >> log & 1) == 0) {
                return FOREIGN;
            }
            if (!logs.tables[log].holds(offset)) {
                return OUTSIDE;
            }
            long answer = logs.append(logs.own(), filledNote(group, log, offset), NOTE_BYTES);
            if (answer < 0) {
                return (int) answer;
            }
            heard[group * EIGHT + member] = now;
            return 0;
        }

        int shareOf(int group, int member) {
            if (state[group] != STABLE || !hasMember(group, member)) {
                return 0;
            }
            int count = Integer.bitCount(members[group]);
            int rank = Integer.bitCount(members[group] & (1 << member) - 1);
            int share = 0;
            for (int log = 0; log < logs.tables.length - 1; log++) {
                if (log % count == rank) {
                    share |= 1 << log;
                }
            }
            return share;
        }

        int ticksLeft(int group) {
            return state[group] == MIXING ? Math.max(0, limit[group] - now) : 0;
        }

        /** Whether the power is still there. */
        boolean tick() {
            now++;
            for (int g = 0; g < EIGHT; g++) {
                dropSilent(g);
                if (!settle(g)) {
                    return false;
                }
            }
            return true;
        }

        private void dropSilent(int group) {
            if (state[group] != STABLE) {
                return;
            }
            int left = 0;
            for (int m = 0; m < EIGHT; m++) {
                if (hasMember(group, m) && now - heard[group * EIGHT + m] < SILENT_TICKS) {
                    left |= 1 << m;
                }
            }
            if (left == 0) {
                makeEmpty(group);
            } else if (left != members[group]) {
                members[group] = left;
                mix(group);
            }
        }

        private boolean hasMember(int group, int member) {
            return (members[group] >> member & 1) == 1;
        }

        private void makeEmpty(int group) {
            state[group] = EMPTY;
            members[group] = 0;
            joined[group] = 0;
        }

        private void mix(int group) {
            state[group] = MIXING;
            joined[group] = 0;
            limit[group] = now + MIXING_TICKS;
        }

        /** Ends the mixing if it is done; whether the power is still there. */
        private boolean settle(int group) {
            boolean done = joined[group] == members[group] || now >= limit[group];
            if (state[group] != MIXING || !done) {
                return true;
            }
            if (joined[group] == 0) {
                makeEmpty(group);
                return true;
            }
            byte[] row = filledNote(group, OF_GENERATION, generation[group] + 1);
            long answer = logs.append(logs.own(), row, NOTE_BYTES);
            if (answer == CUT) {
                return false;
            }
            if (answer != FULL) {
                generation[group]++;
                state[group] = STABLE;
                members[group] = joined[group];
                Arrays.fill(heard, group * EIGHT, group * EIGHT + EIGHT, now);
            }
            return true;
        }

        private byte[] filledNote(int group, int about, long value) {
            Batch.begin(note, 0, 1, now, now);
            Batch.sign(note, 0, NONE, NONE, NONE);
            int at = Bytes.putVarint(note, HEAD, NOTE_BYTES - HEAD - 1);
            Bytes.put(note, at, 3, 0);
            Bytes.putVarint(note, NOTE_KEY - 1, 2);
            note[NOTE_KEY] = (byte) group;
            note[NOTE_KEY + 1] = (byte) about;
            Bytes.putVarint(note, NOTE_VALUE - 1, 8);
            Bytes.put(note, NOTE_VALUE, 8, value);
            note[NOTE_BYTES - 1] = 0;
            Batch.finish(note, 0, NOTE_BYTES);
            return note;
        }

        /** The value of the latest note about this; NONE without one. */
        long latestNote(int group, int about) {
            LogTable own = logs.own();
            byte[] row = logs.disk.row;
            for (int i = own.batches - 1; i >= 0; i--) {
                int key = own.at[i] + NOTE_KEY;
                if (row[key] == (byte) group && row[key + 1] == (byte) about) {
                    return Bytes.signed(row, own.at[i] + NOTE_VALUE, 8);
                }
            }
            return NONE;
        }
    }
}
