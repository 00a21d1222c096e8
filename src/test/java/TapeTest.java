import java.nio.ByteBuffer;
import java.util.Arrays;

/** Promises 1 to 7: a new object, the tape and the draft. */
public final class TapeTest {
    private static final long TOP = 1L << 50;

    private static void promise1NewObject() {
        int[][] sizes = {{1, 1, 32, 29}, {0, 1, 32, 29}, {-9, 1, 31, 29}, {Integer.MIN_VALUE, 1, Integer.MIN_VALUE, 29},
            {2, 2, 64, 60}, {8, 16, 256, 246}, {9, 17, 257, 246}, {Integer.MAX_VALUE, 1, Integer.MAX_VALUE, 246}};
        for (int[] s : sizes) {
            BatchBroker x = new BatchBroker(s[0], s[1], s[2]);
            String name = "new " + Arrays.toString(s);
            Expect.same(name + " free", s[3], x.free());
            int logs = Math.max(1, Math.min(8, s[0]));
            for (int what = 0; what <= 5; what++) {
                Expect.same(name + " log 0", 0, x.log(0, what));
                Expect.same(name + " own log", 0, x.log(logs, what));
            }
            Expect.argument(name + " no more logs", () -> x.log(logs + 1, 0));
            Expect.same(name + " time", 0, x.time());
            Expect.same(name + " writes", 0, x.writes());
            Expect.same(name + " down", 0, x.isDown() ? 1 : 0);
            Expect.same(name + " tape", 0, x.trim(0));
            Expect.same(name + " audit", 0, x.audit());
            Expect.same(name + " recover", 0, x.recover());
            Expect.same(name + " producer", 0, x.producer());
        }
        int[][] segments = {{-3, 1}, {0, 1}, {1, 1}, {2, 2}, {15, 15}, {16, 16}, {17, 16}, {Integer.MAX_VALUE, 16}};
        for (int[] s : segments) {
            BatchBroker x = new BatchBroker(1, s[0], 100);
            Expect.same("first batch, segment " + s[0], 0, Send.one(x, 0, 0, 1, 0));
            Expect.same("free, segment " + s[0], 97 - s[1], x.free());
        }
    }

    private static void promise2Feed() {
        BatchBroker x = new BatchBroker(1, 1, 32);
        Expect.same("feed", 20, x.feed(0x01020304, 0x85060708, -2, 0x7fffffff, 0x80000000));
        Expect.same("feed again", 40, x.feed(9, 10, 11, 12, 13));
        ByteBuffer due = ByteBuffer.allocate(40);
        due.putInt(0x01020304).putInt(0x85060708).putInt(-2).putInt(0x7fffffff).putInt(0x80000000);
        due.putInt(9).putInt(10).putInt(11).putInt(12).putInt(13);
        Expect.same("fed bytes", 1, Arrays.equals(due.array(), Send.tape(x)) ? 1 : 0);

        BatchBroker y = new BatchBroker(1, 1, 32);
        fillTape(y, 16364);
        Expect.same("the last room", 16384, y.feed(1, 2, 3, 4, 5));
        Expect.state("no room", () -> y.feed(1, 2, 3, 4, 5));
        Expect.same("a throw changes nothing", 16384, y.trim(0));
        y.trim(19);
        Expect.state("room for 19", () -> y.feed(1, 2, 3, 4, 5));
        Expect.same("still as it was", 16365, y.trim(0));
        y.crash(0);
        Expect.same("feed when down", 40, (y.trim(16345) == 20 ? 0 : 100) + y.feed(0, 0, 0, 0, 0));
    }

    /** Fills the tape with the bytes of drafts. */
    private static void fillTape(BatchBroker x, int size) {
        x.record(51, 0, -1, 0, 300, 0);
        x.seal(0, 0, 0, 0);
        x.record(29, 0, -1, 0, 10, 0);
        x.seal(0, 0, 0, 0);
        x.trim(x.trim(0) - size);
    }

    private static void promise3Trim() {
        BatchBroker x = new BatchBroker(1, 1, 32);
        Expect.same("trim nothing of nothing", 0, x.trim(0));
        Expect.argument("trim of an empty tape", () -> x.trim(1));
        x.feed(1, 2, 3, 4, 5);
        Expect.same("trim 0", 20, x.trim(0));
        Expect.argument("trim -1", () -> x.trim(-1));
        Expect.argument("trim least", () -> x.trim(Integer.MIN_VALUE));
        Expect.argument("trim 21", () -> x.trim(21));
        Expect.argument("trim most", () -> x.trim(Integer.MAX_VALUE));
        Expect.same("trim 3", 17, x.trim(3));
        Expect.same("the first bytes stay", 1, x.spoil(3, 0));
        Expect.same("the last byte", 0, x.spoil(16, 0));
        Expect.argument("the trimmed byte", () -> x.spoil(17, 0));
        x.crash(0);
        Expect.same("trim when down", 0, x.trim(17));
    }

    private static void promise4Spoil() {
        BatchBroker x = new BatchBroker(1, 1, 32);
        Expect.argument("no byte", () -> x.spoil(0, 0));
        x.feed(0x00ff0f80, 0, 0, 0, 7);
        Expect.same("spoil 0", 255, x.spoil(0, 255));
        Expect.same("spoil 1", 0, x.spoil(1, 255));
        Expect.same("spoil 2", 14, x.spoil(2, 1));
        Expect.same("spoil 3", 128, x.spoil(3, 0));
        Expect.same("spoil 19", 5, x.spoil(19, 2));
        Expect.same("stays spoiled", 5, x.spoil(19, 0));
        Expect.argument("byte 20", () -> x.spoil(20, 1));
        Expect.argument("byte -1", () -> x.spoil(-1, 1));
        Expect.argument("byte least", () -> x.spoil(Integer.MIN_VALUE, 1));
        Expect.argument("x 256", () -> x.spoil(19, 256));
        Expect.argument("x -1", () -> x.spoil(19, -1));
        Expect.same("a throw changes nothing", 5, x.spoil(19, 0));
        x.crash(0);
        Expect.same("spoil when down", 6, x.spoil(19, 3));
    }

    private static void promise5Record() {
        recordBounds();
        recordBytes();
        recordLimits();
        recordExactRooms();
    }

    private static void recordBounds() {
        BatchBroker x = new BatchBroker(1, 1, 32);
        Expect.same("one", 1, x.record(1, 0, -1, 0, -1, 0));
        Expect.same("a hundred", 101, x.record(100, 0, 8, 0, 0, 1000000));
        Expect.same("300 bytes", 102, x.record(1, 0, 0, 0, 300, 0));
        Expect.argument("n 0", () -> x.record(0, 0, 1, 0, 1, 0));
        Expect.argument("n 101", () -> x.record(101, 0, 1, 0, 1, 0));
        Expect.argument("n -1", () -> x.record(-1, 0, 1, 0, 1, 0));
        Expect.argument("keyBytes -2", () -> x.record(1, 0, -2, 0, 1, 0));
        Expect.argument("keyBytes 9", () -> x.record(1, 0, 9, 0, 1, 0));
        Expect.argument("valueBytes -2", () -> x.record(1, 0, 1, 0, -2, 0));
        Expect.argument("valueBytes 301", () -> x.record(1, 0, 1, 0, 301, 0));
        Expect.argument("later -1", () -> x.record(1, 0, 1, 0, 1, -1));
        Expect.argument("later 1000001", () -> x.record(1, 0, 1, 0, 1, 1000001));
        Expect.same("a throw changes nothing", 103, x.record(1, 0, 1, 0, 1, 0));
        x.crash(0);
        Expect.same("record when down", 104, x.record(1, 0, 1, 0, 1, 0));
    }

    private static byte[] bytes(long... numbers) {
        byte[] row = new byte[numbers.length];
        for (int i = 0; i < row.length; i++) {
            row[i] = (byte) numbers[i];
        }
        return row;
    }

    private static void recordBytes() {
        BatchBroker x = new BatchBroker(1, 1, 32);
        x.record(2, 0x1ffL, 2, 0x0102030405060708L, 10, 63);
        x.record(1, -1L, 8, 0, -1, 0);
        x.record(1, Long.MAX_VALUE, 0, 0, 0, 1000000);
        x.record(2, Long.MAX_VALUE, 8, Long.MAX_VALUE, 8, 5);
        x.record(1, 77, -1, -2, 1, 8192);
        int size = x.seal(-1, -1, -1, 1000);
        byte[] records = Send.join(
                Model.recordBytes(63, 0, bytes(1, 0xff), bytes(8, 7, 6, 5, 4, 3, 2, 1, 8, 7)),
                Model.recordBytes(64, 1, bytes(2, 0), bytes(9, 7, 6, 5, 4, 3, 2, 1, 9, 7)),
                Model.recordBytes(0, 2, bytes(-1, -1, -1, -1, -1, -1, -1, -1), null),
                Model.recordBytes(1000000, 3, bytes(), bytes()),
                Model.recordBytes(5, 4, bytes(127, -1, -1, -1, -1, -1, -1, -1), bytes(-1, -1, -1, -1, -1, -1, -1, 127)),
                Model.recordBytes(6, 5, bytes(128, 0, 0, 0, 0, 0, 0, 0), bytes(0, 0, 0, 0, 0, 0, 0, 128)),
                Model.recordBytes(8192, 6, null, bytes(-2)));
        byte[] due = Model.batchBytes(0, 6, 1000, 1001000, -1, -1, -1, 7, records);
        Expect.same("bytes of the batch", due.length, size);
        byte[] got = Send.tape(x);
        for (int i = 0; i < due.length; i++) {
            Expect.same("byte " + i, due[i], got[i]);
        }
        Expect.same("without fault", 0, x.fault(0));
    }

    private static void recordLimits() {
        BatchBroker x = new BatchBroker(1, 1, 32);
        for (int i = 1; i <= 9; i++) {
            Expect.same("hundreds", 100 * i, x.record(100, 0, -1, 0, -1, 0));
        }
        Expect.same("999", 999, x.record(99, 0, -1, 0, -1, 0));
        Expect.state("1001, none of them comes", () -> x.record(2, 0, -1, 0, -1, 0));
        Expect.argument("argument before state", () -> x.record(101, 0, -1, 0, -1, 0));
        Expect.same("1000", 1000, x.record(1, 0, -1, 0, -1, 0));
        Expect.state("1001", () -> x.record(1, 0, -1, 0, -1, 0));

        // fifty with 300 bytes have 309 each (offset 0 .. 49), so 15450; 550 are left
        BatchBroker y = new BatchBroker(1, 1, 32);
        y.record(50, 0, -1, 0, 300, 0);
        Expect.same("51", 51, y.record(1, 0, -1, 0, 300, 0));
        Expect.state("too many bytes", () -> y.record(1, 0, -1, 0, 300, 0));
        Expect.state("one byte too many", () -> y.record(1, 0, -1, 0, 233, 0));
        Expect.state("two, of which one had room", () -> y.record(2, 0, -1, 0, 200, 0));
        Expect.same("16000 bytes", 52, y.record(1, 0, -1, 0, 232, 0));
        Expect.state("no byte is left", () -> y.record(1, 0, -1, 0, -1, 0));
        Expect.same("sealed", 16061, y.seal(-1, -1, -1, 0));
        Expect.same("the draft is empty then", 1, y.record(1, 0, -1, 0, -1, 0));
    }

    private static void recordExactRooms() {
        int[] laters = {0, 1, 20, 63, 64, 8100, 8150, 8192, 1000000};
        for (int later : laters) {
            recordExactRoom(100, later, 0);
            recordExactRoom(100, later, 1);
        }
    }

    /** So many records behind sixty others, which leave just enough room for them, or miss a byte. */
    private static void recordExactRoom(int n, int later, int missing) {
        int size = 0;
        for (int i = 0; i < n; i++) {
            size += Model.recordBytes(later + i, 60 + i, null, null).length;
        }
        BatchBroker x = new BatchBroker(1, 1, 32);
        x.record(59, 0, -1, 0, 244, 0);
        x.record(1, 0, -1, 0, 16000 - size - 59 * 253 + missing - 9, 0);
        String name = n + " records, " + later + " later";
        if (missing > 0) {
            Expect.state(name + ": a byte too few", () -> x.record(n, 0, -1, 0, -1, later));
            Expect.same(name + ": none came", 61, x.record(1, 0, -1, 0, -1, 0));
        } else {
            Expect.same(name + ": just enough", 60 + n, x.record(n, 0, -1, 0, -1, later));
            Expect.same(name + ": 16000", 16061, x.seal(-1, -1, -1, 0));
        }
    }

    private static void promise6Seal() {
        BatchBroker x = new BatchBroker(1, 1, 32);
        x.feed(1, 1, 1, 1, 1);
        x.record(2, 5, 1, 6, 1, 3);
        byte[] records = Send.join(Model.recordBytes(3, 0, bytes(5), bytes(6)), Model.recordBytes(4, 1, bytes(6), bytes(7)));
        byte[] first = Model.batchBytes(0, 1, 1L << 49, (1L << 49) + 4, 0x123456789abcdefL, 70000, -5, 2, records);
        Expect.same("seal behind the tape", 20 + first.length, x.seal(0x123456789abcdefL, 70000, -5, 1L << 49));
        byte[] empty = Model.batchBytes(0, -1, 77, 0, -1, -1, -1, 0, new byte[0]);
        Expect.same("seal without records", 20 + first.length + 61, x.seal(-1, -1, -1, 77));
        byte[] due = Send.join(ByteBuffer.allocate(20).putInt(1).putInt(1).putInt(1).putInt(1).putInt(1).array(), first, empty);
        byte[] got = Send.tape(x);
        for (int i = 0; i < due.length; i++) {
            Expect.same("byte " + i, due[i], got[i]);
        }
        x.record(3, 0, 1, 0, 1, 0);
        Expect.argument("time -1", () -> x.seal(0, 0, 0, -1));
        Expect.argument("time 2^49 + 1", () -> x.seal(0, 0, 0, (1L << 49) + 1));
        Expect.argument("time least", () -> x.seal(0, 0, 0, Long.MIN_VALUE));
        Expect.same("the draft is as it was", 4, x.record(1, 0, 1, 0, 1, 0));
        Expect.same("and the tape", due.length, x.trim(0));

        BatchBroker y = new BatchBroker(1, 1, 32);
        fillTape(y, 16384 - 61 - 8);
        y.record(1, 0, 1, 0, -1, 0);
        y.feed(0, 0, 0, 0, 0);
        y.trim(19);
        Expect.state("one byte too many", () -> y.seal(0, 0, 0, 0));
        Expect.argument("argument before state", () -> y.seal(0, 0, 0, -1));
        y.trim(1);
        y.crash(0);
        Expect.same("sealed, when down", 16384, y.seal(0, 0, 0, 0));
        Expect.state("an empty one has no room", () -> y.seal(0, 0, 0, 0));
        Expect.same("empty then", 1, y.record(1, 0, 1, 0, 1, 0));

        BatchBroker z = new BatchBroker(1, 1, 32);
        z.seal(-1, -1, -1, 0);
        Expect.same("an empty draft's fault", 2, z.fault(0));
        Expect.same("is its COUNT", 57, z.fault(1));
        z.trim(61);
        z.record(1, 0, 1, 0, 1, 9);
        z.seal(-1, -1, -1, 0);
        z.trim(70);
        z.record(1, 0, 1, 0, 1, 2);
        z.seal(-1, -1, -1, 0);
        Expect.same("the greatest time is not that of an earlier draft", 0, z.fault(0));
    }

    // ---- promise 7

    private static final byte[] RECORD = Model.recordBytes(0, 0, bytes(1), bytes(2, 3));

    private static byte[] batch(long first, long greatest, int count, byte[]... records) {
        return Model.batchBytes(0, count - 1, first, greatest, -1, -1, -1, count, Send.join(records));
    }

    private static void faultOf(String what, int kind, int place, byte[] row) {
        BatchBroker x = new BatchBroker(1, 16, 64);
        Send.feed(x, row);
        Expect.same(what + ": kind", kind, x.fault(0));
        Expect.same(what + ": place", place, x.fault(1));
        Expect.same(what + ": the tape stays", row.length, x.trim(0));
        Expect.same(what + ": produce", kind == 0 ? 0 : BatchBroker.FAULT, x.produce(0));
        Expect.same(what + ": the tape is empty then", 0, x.trim(0));
        Expect.same(what + ": records", kind == 0 ? ByteBuffer.wrap(row).getInt(57) : 0, x.log(0, 4));
    }

    /** A good batch with another number at some place, and the checksum of that. */
    private static byte[] with(int at, int bytes, long number) {
        return put(batch(5, 5, 1, RECORD), at, bytes, number);
    }

    private static byte[] put(byte[] row, int at, int bytes, long number) {
        for (int i = 0; i < bytes; i++) {
            row[at + i] = (byte) (number >> 8 * (bytes - 1 - i));
        }
        return Model.checksummed(row);
    }

    private static byte[] signed(long producer, int epoch, int sequence) {
        return Model.batchBytes(0, 0, 0, 0, producer, epoch, sequence, 1, RECORD);
    }

    private static void promise7Fault() {
        BatchBroker x = new BatchBroker(1, 1, 32);
        Expect.same("an empty tape", 1, x.fault(0));
        Expect.same("an empty tape, at", 8, x.fault(1));
        Expect.argument("what 2", () -> x.fault(2));
        Expect.argument("what -1", () -> x.fault(-1));
        x.crash(0);
        Expect.same("fault when down", 1, x.fault(0));
        faultOf("none", 0, -1, batch(5, 5, 1, RECORD));
        lengthFaults();
        fieldFaults();
        checksumFaults();
        recordFaults();
        varintFaults();
        timeFaults();
    }

    private static void lengthFaults() {
        byte[] good = batch(5, 5, 1, RECORD);
        faultOf("60 bytes", 1, 8, Arrays.copyOf(good, 60));
        byte[] short60 = Arrays.copyOf(good, 60);
        short60[11] = 48;
        faultOf("60 bytes and LENGTH 48", 1, 8, short60);
        faultOf("a byte less", 1, 8, Arrays.copyOf(good, good.length - 1));
        faultOf("a byte more", 1, 8, Arrays.copyOf(good, good.length + 1));
        faultOf("LENGTH -1", 1, 8, with(8, 4, -1));
        faultOf("LENGTH in its highest byte", 1, 8, with(8, 1, 1));
        byte[] many = put(good.clone(), 0, 8, 1);
        many[11]++;
        faultOf("LENGTH is ahead of FIELD", 1, 8, many);
        byte[] bare = Model.batchBytes(0, 0, 0, 0, -1, -1, -1, 1, new byte[0]);
        faultOf("61 bytes are enough for a head", 4, 61, bare);
    }

    private static void fieldFaults() {
        faultOf("BASE 1", 2, 0, with(0, 8, 1));
        faultOf("BASE -1", 2, 0, with(0, 8, -1));
        faultOf("BASE in its highest byte", 2, 0, with(0, 1, 1));
        faultOf("TERM 1", 2, 12, with(12, 4, 1));
        faultOf("TERM in its highest byte", 2, 12, with(12, 1, 128));
        faultOf("MARK 1", 2, 16, with(16, 1, 1));
        faultOf("MARK 130", 2, 16, with(16, 1, 130));
        faultOf("FLAGS 1", 2, 21, with(21, 2, 1));
        faultOf("FLAGS 256", 2, 21, with(21, 2, 256));
        faultOf("LAST 1", 2, 23, with(23, 4, 1));
        faultOf("LAST -1", 2, 23, with(23, 4, -1));
        byte[] wrapped = put(with(23, 4, Integer.MAX_VALUE), 57, 4, Integer.MIN_VALUE);
        faultOf("LAST and COUNT as whole numbers", 2, 23, wrapped);
        faultOf("COUNT 0", 2, 57, put(with(23, 4, -1), 57, 4, 0));
        faultOf("COUNT 1001", 2, 57, put(with(23, 4, 1000), 57, 4, 1001));
        faultOf("COUNT 1000, its records are missing", 4, 61 + RECORD.length, put(with(23, 4, 999), 57, 4, 1000));
        faultOf("COUNT -1", 2, 57, put(with(23, 4, -2), 57, 4, -1));
        faultOf("COUNT 2", 2, 23, with(57, 4, 2));
        faultOf("FIRST TIME -1", 2, 27, with(27, 8, -1));
        faultOf("FIRST TIME 2^50 + 1", 2, 27, with(27, 8, TOP + 1));
        faultOf("FIRST TIME 2^50", 0, -1, batch(TOP, TOP, 1, RECORD));
        faultOf("GREATEST TIME -1", 2, 35, with(35, 8, -1));
        faultOf("GREATEST TIME 2^50 + 1", 2, 35, with(35, 8, TOP + 1));
        faultOf("PRODUCER -2", 2, 43, signed(-2, -1, -1));
        faultOf("PRODUCER 2^50 + 1", 2, 43, signed(TOP + 1, 0, 0));
        faultOf("PRODUCER 2^50", 0, -1, signed(TOP, 0, 0));
        faultOf("no PRODUCER, EPOCH 0", 2, 51, signed(-1, 0, -1));
        faultOf("no PRODUCER, EPOCH -2", 2, 51, signed(-1, -2, -1));
        faultOf("no PRODUCER, SEQUENCE 0", 2, 53, signed(-1, -1, 0));
        faultOf("no PRODUCER, SEQUENCE -2", 2, 53, signed(-1, -1, -2));
        faultOf("EPOCH -1", 2, 51, signed(0, -1, 0));
        faultOf("EPOCH 32768 is below 0", 2, 51, signed(0, 32768, 0));
        faultOf("EPOCH 32767", 0, -1, signed(0, 32767, 0));
        faultOf("SEQUENCE -1", 2, 53, signed(0, 0, -1));
        faultOf("SEQUENCE least", 2, 53, signed(0, 0, Integer.MIN_VALUE));
        faultOf("SEQUENCE 2^31 - 1", 0, -1, signed(0, 0, Integer.MAX_VALUE));
        byte[] all = new byte[61];
        Arrays.fill(all, (byte) 0x81);
        ByteBuffer.wrap(all).putInt(8, 49);
        int[] places = {0, 12, 16, 21, 23, 27, 35, 43, 51, 53, 57};
        int[] sizes = {8, 4, 1, 2, 4, 8, 8, 8, 2, 4, 4};
        long[] right = {0, 0, 2, 0, 0, 0, 0, 0, 0, 0, 1};
        for (int i = 0; i < places.length; i++) {
            faultOf("the first wrong field from the left", 2, places[i], all.clone());
            all = put(all, places[i], sizes[i], right[i]);
            if (i == 4) {
                // LAST is right as soon as it is COUNT - 1, which is wrong itself
                all = put(all, 23, 4, 0x81818181 - 1);
            }
        }
    }

    private static void checksumFaults() {
        for (int bit = 0; bit < 32; bit++) {
            byte[] row = batch(5, 5, 1, RECORD);
            row[17 + bit / 8] ^= (byte) (1 << bit % 8);
            faultOf("checksum bit " + bit, 3, 17, row);
        }
        byte[] last = batch(5, 5, 1, RECORD);
        last[last.length - 1] = 1;
        faultOf("the last byte counts, CHECKSUM is ahead of RECORD", 3, 17, last);
        byte[] first = batch(5, 5, 1, RECORD);
        first[22] = 1;
        faultOf("FIELD is ahead of CHECKSUM", 2, 21, first);
    }

    private static void recordFault(String what, byte[] record) {
        byte[] good = Model.recordBytes(0, 0, null, null);
        byte[] after = Model.recordBytes(0, 2, null, null);
        faultOf(what, 4, 61 + good.length, batch(5, 5, 3, good, record, after));
        faultOf(what + ", last", 4, 61 + good.length, batch(5, 5, 2, good, record));
    }

    private static void recordFaults() {
        recordFault("first byte 1", bytes(12, 1, 0, 2, 1, 1, 0));
        recordFault("last byte 1", bytes(12, 0, 0, 2, 1, 1, 1));
        recordFault("said to be shorter", bytes(10, 0, 0, 2, 1, 1, 0));
        recordFault("said to be longer", bytes(14, 0, 0, 2, 1, 1, 0));
        recordFault("said to be longer, with another byte", bytes(14, 0, 0, 2, 1, 1, 0, 0));
        recordFault("said to have no bytes", bytes(0));
        recordFault("said to have -1 bytes", bytes(1, 0, 0, 2, 1, 1, 0));
        recordFault("said to be beyond the end", bytes(254, 1, 0, 0, 2, 1, 1, 0));
        recordFault("said to have 2^63 - 1 bytes", Send.join(Model.varint(Long.MAX_VALUE), bytes(0, 0, 2, 1, 1, 0)));
        recordFault("said to have 2^32 + 6 bytes", Send.join(Model.varint((1L << 32) + 6), bytes(0, 0, 2, 1, 1, 0)));
        recordFault("said to have - 2^63 bytes", Send.join(Model.varint(Long.MIN_VALUE), bytes(0, 0, 2, 1, 1, 0)));
        recordFault("offset 0", Model.recordBytes(0, 0, null, null));
        recordFault("offset 2", Model.recordBytes(0, 2, null, null));
        recordFault("offset -1", Model.recordBytes(0, -1, null, null));
        recordFault("offset 2^32 + 1", Model.recordBytes(0, (1L << 32) + 1, null, null));
        recordFault("key of -2 bytes", bytes(12, 0, 0, 2, 3, 1, 0));
        recordFault("value of -2 bytes", bytes(12, 0, 0, 2, 1, 3, 0));
        recordFault("key beyond the record", bytes(12, 0, 0, 2, 8, 1, 0));
        recordFault("value beyond the record", bytes(12, 0, 0, 2, 1, 2, 0));
        recordFault("value over the next record", bytes(12, 0, 0, 2, 1, 16, 0));
        recordFault("key of 2^32 bytes",
                Send.join(bytes(22), bytes(0, 0, 2), Model.varint(1L << 32), bytes(0, 1, 0)));
        recordFault("value of 2^32 - 1 bytes",
                Send.join(bytes(22), bytes(0, 0, 2, 1), Model.varint((1L << 32) - 1), bytes(0, 0)));
        byte[] good = Model.recordBytes(0, 0, null, null);
        byte[] second = Model.recordBytes(0, 1, null, null);
        faultOf("the second is missing", 4, 61 + good.length, batch(5, 5, 2, good));
        faultOf("one too many", 4, 61 + good.length, batch(5, 5, 1, good, second));
        faultOf("a byte too many", 4, 61 + good.length, batch(5, 5, 1, good, bytes(0)));
        faultOf("half of a second", 4, 61 + good.length, batch(5, 5, 2, good, Arrays.copyOf(second, 3)));
        faultOf("two", 0, -1, batch(5, 5, 2, good, second));
        faultOf("a key of 200 bytes, a value of 9", 0, -1,
                batch(5, 5, 1, Model.recordBytes(0, 0, new byte[200], new byte[9])));
        faultOf("of no bytes", 0, -1, batch(5, 5, 1, Model.recordBytes(0, 0, new byte[0], new byte[0])));
        // what lies behind the tape in memory (zeros, or what was trimmed) is no part of a record
        byte[] third = Model.recordBytes(0, 1, bytes(1, 2), bytes(0, 0, 0, 0));
        for (int cut = 1; cut <= third.length; cut++) {
            byte[] row = batch(5, 5, 2, good, Arrays.copyOf(third, third.length - cut));
            faultOf("cut by " + cut, 4, 61 + good.length, row);
            BatchBroker x = new BatchBroker(1, 1, 32);
            Send.feed(x, Send.join(row, Arrays.copyOfRange(third, third.length - cut, third.length)));
            x.trim(cut);
            Expect.same("trimmed by " + cut, 4, x.fault(0));
            Expect.same("trimmed, at", 61 + good.length, x.fault(1));
        }
        byte[][] many = new byte[1000][];
        for (int i = 0; i < 1000; i++) {
            many[i] = Model.recordBytes(0, i, null, null);
        }
        faultOf("a thousand", 0, -1, batch(5, 5, 1000, many));
    }

    /** Time differences in forms that no varint has. */
    private static void varintFaults() {
        byte[][] forms = {bytes(128, 0), bytes(0x82, 0), bytes(0x81, 0x80, 0),
            bytes(-1, -1, -1, -1, -1, -1, -1, -1, -1, 2), bytes(-1, -1, -1, -1, -1, -1, -1, -1, -1, 3),
            bytes(-1, -1, -1, -1, -1, -1, -1, -1, -1, 0), bytes(-1, -1, -1, -1, -1, -1, -1, -1, -1, 0x81, 0),
            bytes(0x80, 0x80, 0x80, 0x80, 0x80, 0x80, 0x80, 0x80, 0x80, 0x80, 0),
            bytes(0x80, 0x80, 0x80, 0x80, 0x80, 0x80, 0x80, 0x80, 0x80, 2),
            bytes(0x80, 0x80, 0x80, 0x80, 0x80, 0x80, 0x80, 0x80, 0x80, 0x80),
            bytes(0x80, 0x80, 0x80, 0x80, 0x80, 0x80, 0x80, 0x80, 0x80, 0x80, 1),
            bytes(0x80, 0x80, 0x80, 0x80, 0x80, 0x80, 0x80, 0x80, 0x80, 0x81, 1)};
        for (byte[] form : forms) {
            String name = "varint " + Arrays.toString(form);
            recordFault(name + " as time",
                    Send.join(Model.varint(5 + form.length), bytes(0), form, bytes(2, 1, 1, 0)));
            recordFault(name + " as key length",
                    Send.join(Model.varint(5 + form.length), bytes(0, 0, 2), form, bytes(1, 0)));
        }
        recordFault("offset 1 in two bytes", bytes(14, 0, 0, 0x82, 0, 1, 1, 0));
        recordFault("no value in two bytes", bytes(14, 0, 0, 2, 1, 0x81, 0, 0));
        recordFault("a length in two bytes", bytes(0x8c, 0, 0, 0, 2, 1, 1, 0));
        recordFault("a varint that the record's end cuts", bytes(6, 0, 0, 0x80));
    }

    private static byte[] timed(long first, long after, long greatest) {
        return batch(first, greatest, 1, Model.recordBytes(after, 0, null, null));
    }

    private static void timeFaults() {
        faultOf("as early as can be", 0, -1, timed(10, -10, 0));
        faultOf("too early", 4, 61, timed(10, -11, 0));
        faultOf("as late as can be", 0, -1, timed(10, TOP - 10, TOP));
        faultOf("too late", 4, 61, timed(10, TOP - 9, TOP));
        faultOf("from 2^50 back to 0", 0, -1, timed(TOP, -TOP, 0));
        faultOf("from 2^50 to below 0", 4, 61, timed(TOP, -TOP - 1, 0));
        faultOf("the greatest difference", 4, 61, timed(TOP, Long.MAX_VALUE, 0));
        faultOf("the least difference", 4, 61, timed(TOP, Long.MIN_VALUE, 0));
        faultOf("GREATEST TIME too small", 5, 35, timed(10, 5, 14));
        faultOf("GREATEST TIME too great", 5, 35, timed(10, 5, 16));
        byte[] early = Model.recordBytes(-4, 0, null, null);
        byte[] late = Model.recordBytes(-2, 1, null, null);
        byte[] middle = Model.recordBytes(-3, 2, null, null);
        faultOf("the greatest stands in the middle", 0, -1, batch(10, 8, 3, early, late, middle));
        faultOf("it is not the last one's", 5, 35, batch(10, 7, 3, early, late, middle));
        faultOf("nor FIRST TIME", 5, 35, batch(10, 10, 3, early, late, middle));
        faultOf("RECORD is ahead of TIME", 4, 61 + early.length, batch(10, 10, 1, early, late));
    }

    public static void main(String[] args) {
        promise1NewObject();
        promise2Feed();
        promise3Trim();
        promise4Spoil();
        promise5Record();
        promise6Seal();
        promise7Fault();
        Expect.end("TapeTest");
    }
}
