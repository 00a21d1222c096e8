import java.nio.ByteBuffer;
import java.util.Arrays;

/** The boundary cases that the document names of a new object, the tape and the draft, sentence by sentence. */
public final class BatchEdgeTest {
    private static final int NONE = BatchBroker.NONE;
    private static final int LARGE = BatchBroker.LARGE;
    private static final long TOP = 1L << 50;

    private static BatchBroker small() {
        return new BatchBroker(1, 1, 32);
    }

    private static byte[] bytes(int... numbers) {
        byte[] row = new byte[numbers.length];
        for (int i = 0; i < row.length; i++) {
            row[i] = (byte) numbers[i];
        }
        return row;
    }

    // ---- promise 1

    private static void newObject() {
        Expect.sentence("So many logs for producers (below 1 counts as 1, above 8 as 8)");
        int[][] logs = {{Integer.MIN_VALUE, 1}, {-1, 1}, {0, 1}, {1, 1}, {2, 2}, {7, 7}, {8, 8}, {9, 8},
            {Integer.MAX_VALUE, 8}};
        for (int[] l : logs) {
            BatchBroker x = new BatchBroker(l[0], 1, 32);
            Expect.same("the own log of " + l[0], 0, x.log(l[1], 1));
            Expect.argument("behind the own log of " + l[0], () -> x.log(l[1] + 1, 1));
            Expect.same("free of " + l[0], 32 - 2 - l[1], x.free());
        }
        Expect.sentence("blocks in a segment (1 .. 16, likewise)");
        int[][] segments = {{Integer.MIN_VALUE, 1}, {0, 1}, {1, 1}, {2, 2}, {15, 15}, {16, 16}, {17, 16},
            {Integer.MAX_VALUE, 16}};
        for (int[] s : segments) {
            BatchBroker x = new BatchBroker(1, s[0], 64);
            Send.exact(x, 0, 100);
            Expect.same("free with a segment of " + s[0], 61 - s[1], x.free());
            if (s[1] < 16) {
                Expect.same("as large as a segment of " + s[0], 1, Send.exact(x, 0, 1024 * s[1]) >= 0 ? 1 : 0);
                Expect.same("larger than a segment of " + s[0], LARGE, Send.exact(x, 0, 1024 * s[1] + 1));
            }
        }
        Expect.sentence("blocks of the disk (32 .. 256, likewise)");
        int[][] blocks = {{Integer.MIN_VALUE, 32}, {0, 32}, {31, 32}, {32, 32}, {33, 33}, {255, 255}, {256, 256},
            {257, 256}, {Integer.MAX_VALUE, 256}};
        for (int[] b : blocks) {
            Expect.same("free of " + b[0], b[1] - 3, new BatchBroker(1, 1, b[0]).free());
        }
        atFirst();
    }

    private static void atFirst() {
        BatchBroker x = new BatchBroker(2, 1, 32);
        Expect.sentence("A log has START and END, both 0 at first, and records");
        for (int log = 0; log <= 2; log++) {
            for (int what = 0; what <= 5; what++) {
                Expect.same("log(" + log + ", " + what + ")", 0, x.log(log, what));
            }
        }
        Expect.sentence("TIME is a number of ticks, 0 at first");
        Expect.same("time", 0, x.time());
        Expect.sentence("A group has a GENERATION, 0 at first, and is EMPTY (at first)");
        for (int group = 0; group < 8; group++) {
            for (int what = 0; what <= 4; what++) {
                Expect.same("group(" + group + ", " + what + ")", 0, x.group(group, what));
            }
        }
        Expect.sentence("THE DRAFT has records, none at first");
        Expect.same("the first record", 1, x.record(1, 0, 0, 0, 0, 0));
        Expect.sentence("block 0 tells which are RESERVED, none at first");
        Expect.same("the first number", 0, x.producer());
        Expect.same("block 0 is written for it", 1, x.writes());
    }

    // ---- promises 2 to 4

    private static void tapeTo(BatchBroker x, int size) {
        Send.exact(x, 16000);
        x.seal(0, 0, 0, 0);
        x.seal(0, 0, 0, 0);
        x.seal(0, 0, 0, 0);
        x.seal(0, 0, 0, 0);
        x.seal(0, 0, 0, 0);
        x.seal(0, 0, 0, 0);
        x.trim(16366 - size);
    }

    private static void feedEdges() {
        Expect.sentence("feed: Illegal state: there would be more than 16384");
        BatchBroker x = small();
        tapeTo(x, 16364);
        Expect.same("20 bytes have room", 16384, x.feed(-1, -1, -1, -1, -1));
        Expect.state("the tape is full", () -> x.feed(0, 0, 0, 0, 0));
        x.trim(19);
        String before = Seen.all(x);
        Expect.state("19 bytes are left", () -> x.feed(0, 0, 0, 0, 0));
        Expect.same("a call that throws changes nothing", before, Seen.all(x));
        x.trim(1);
        Expect.same("20 bytes are left", 16384, x.feed(0, 0, 0, 0, 0));
        Expect.sentence("Twenty bytes come behind the tape, the highest byte of each of the five first");
        BatchBroker y = small();
        y.feed(0, 0, 0, 0, 0);
        y.trim(17);
        Expect.same("how many it has", 23, y.feed(0x80000001, -1, Integer.MAX_VALUE, 0x01020304, 0x85868788));
        byte[] due = bytes(0, 0, 0, 0x80, 0, 0, 1, 255, 255, 255, 255, 127, 255, 255, 255, 1, 2, 3, 4, 0x85, 0x86, 0x87,
                0x88);
        Expect.same("the bytes", Arrays.toString(due), Arrays.toString(Send.tape(y)));
    }

    private static void trimEdges() {
        Expect.sentence("trim: Illegal argument: n is below 0, or more than there are");
        BatchBroker x = small();
        Expect.same("0 of an empty tape", 0, x.trim(0));
        Expect.argument("1 of an empty tape", () -> x.trim(1));
        Expect.argument("below 0", () -> x.trim(-1));
        x.feed(1, 2, 3, 4, 5);
        Expect.argument("one more than there are", () -> x.trim(21));
        Expect.argument("far below 0", () -> x.trim(Integer.MIN_VALUE));
        Expect.argument("far more", () -> x.trim(Integer.MAX_VALUE));
        Expect.same("all stay", 20, x.trim(0));
        Expect.same("all but one", 1, x.trim(19));
        Expect.same("the last one", 0, x.trim(1));
    }

    private static void spoilEdges() {
        Expect.sentence("spoil: Illegal argument: there is no such byte, or x is not 0 .. 255");
        BatchBroker x = small();
        Expect.argument("of an empty tape", () -> x.spoil(0, 1));
        x.feed(0x7f000000, 0, 0, 0, 0x0f);
        Expect.same("the first byte", 255, x.spoil(0, 128));
        Expect.same("the last byte", 0xf0, x.spoil(19, 255));
        Expect.same("by nothing", 0xf0, x.spoil(19, 0));
        Expect.argument("byte -1", () -> x.spoil(-1, 1));
        Expect.argument("byte 20", () -> x.spoil(20, 1));
        Expect.argument("byte 2^31 - 1", () -> x.spoil(Integer.MAX_VALUE, 1));
        Expect.argument("x -1", () -> x.spoil(0, -1));
        Expect.argument("x 256", () -> x.spoil(0, 256));
        Expect.same("it is as it was", 255, x.spoil(0, 0));
        x.trim(1);
        Expect.argument("a byte that went", () -> x.spoil(19, 0));
    }

    // ---- promise 5

    private static void recordEdges() {
        Expect.sentence("Illegal argument: n is not 1 .. 100, keyBytes not -1 .. 8, valueBytes not -1 .. 300, "
                + "later not 0 .. 1000000");
        int[][] good = {{1, -1, -1, 0}, {100, -1, -1, 0}, {1, 8, -1, 0}, {1, 0, 300, 0}, {1, 0, 0, 1000000}};
        int[][] wrong = {{0, 1, 1, 1}, {-1, 1, 1, 1}, {101, 1, 1, 1}, {1, -2, 1, 1}, {1, 9, 1, 1}, {1, 1, -2, 1},
            {1, 1, 301, 1}, {1, 1, 1, -1}, {1, 1, 1, 1000001}, {Integer.MIN_VALUE, 1, 1, 1},
            {1, Integer.MAX_VALUE, 1, 1}, {1, 1, Integer.MIN_VALUE, 1}, {1, 1, 1, Integer.MAX_VALUE}};
        for (int[] r : good) {
            Expect.same("record " + Arrays.toString(r), r[0], small().record(r[0], 0, r[1], 0, r[2], r[3]));
        }
        for (int[] r : wrong) {
            BatchBroker x = small();
            Expect.argument("record " + Arrays.toString(r), () -> x.record(r[0], 0, r[1], 0, r[2], r[3]));
            Expect.same("nothing came", 1, x.record(1, 0, 0, 0, 0, 0));
        }
        Expect.sentence("illegal state: there would be more than 1000 [records]; all n come, or none");
        BatchBroker x = small();
        for (int i = 0; i < 9; i++) {
            x.record(100, 0, NONE, 0, NONE, 0);
        }
        x.record(1, 0, NONE, 0, NONE, 0);
        Expect.state("1001, of which 99 had room", () -> x.record(100, 0, NONE, 0, NONE, 0));
        Expect.argument("of several exceptions the one named first", () -> x.record(101, 0, NONE, 0, NONE, 0));
        Expect.same("1000", 1000, x.record(99, 0, NONE, 0, NONE, 0));
        Expect.state("1001", () -> x.record(1, 0, NONE, 0, NONE, 0));
        x.seal(NONE, NONE, NONE, 0);
        Expect.same("a thousand are no fault", 0, x.fault(0));
        Expect.same("the draft is empty again", 100, x.record(100, 0, NONE, 0, NONE, 0));
        draftBytes();
        recordNumbers();
    }

    private static void draftBytes() {
        Expect.sentence("illegal state: their bytes (without a head), if it was sealed now, more than 16000");
        BatchBroker x = small();
        x.record(50, 0, NONE, 0, 300, 0);
        // 50 of 309 bytes are 15450; one of 541 is not to be had, but two of 309 and 241 are 16000
        x.record(1, 0, NONE, 0, 300, 0);
        Expect.state("16001, all of it one record", () -> x.record(1, 0, NONE, 0, 233, 0));
        Expect.state("16001 by the second byte of a time", () -> x.record(1, 0, NONE, 0, 232, 64));
        Expect.state("two of 121 bytes, of which one had room", () -> x.record(2, 0, NONE, 0, 112, 0));
        Expect.same("16000", 52, x.record(1, 0, NONE, 0, 232, 63));
        Expect.state("the least record of all", () -> x.record(1, 0, NONE, 0, NONE, 0));
        Expect.same("16000 and a head", 16061, x.seal(NONE, NONE, NONE, 0));
        Expect.same("without fault", 0, x.fault(0));
    }

    private static void recordNumbers() {
        Expect.sentence("the i-th of them with the lowest keyBytes bytes of key + i as key, byte j of the value the "
                + "lowest of (value + i) >> 8 (j modulo 8): wrap-arounds");
        BatchBroker x = new BatchBroker(1, 2, 32);
        x.record(2, Long.MAX_VALUE, 8, Long.MAX_VALUE, 8, 0);
        x.record(2, -1, 8, -1, 9, 0);
        x.record(2, 255, 1, 255, 1, 0);
        x.record(1, 0x0102030405060708L, 0, 0x0102030405060708L, 0, 0);
        x.record(2, 0x0102030405060708L, 3, 0x8102030405060708L, 17, 1000000);
        x.seal(NONE, NONE, NONE, 1L << 49);
        Expect.same("no fault", 0, x.fault(0));
        x.produce(0);
        x.fetch(0, 0, 0);
        long late = (1L << 49) + 1000000;
        long[][] due = {{1L << 49, 8, Long.MAX_VALUE, 8, 0xffffffffffffff7fL}, {(1L << 49) + 1, 8, Long.MIN_VALUE, 8, 128},
            {1L << 49, 8, -1, 9, -1}, {(1L << 49) + 1, 8, 0, 9, 0}, {1L << 49, 1, 255, 1, 255},
            {(1L << 49) + 1, 1, 0, 1, 0}, {1L << 49, 0, 0, 0, 0},
            {late, 3, 0x060708, 17, 0x0807060504030281L}, {late + 1, 3, 0x060709, 17, 0x0907060504030281L}};
        for (int k = 0; k < due.length; k++) {
            for (int what = 1; what <= 5; what++) {
                Expect.same("record " + k + ", " + what, due[k][what - 1], x.taken(k, what));
            }
        }
        // the last record's value lies in front of the last byte, 17 bytes of it
        int size = x.fetch(0, 8, 0);
        Expect.same("byte 7 of a value", 0x81, x.byteAt(size - 1 - 17 + 7));
        Expect.same("byte 8 is byte 0 again", 0x09, x.byteAt(size - 1 - 17 + 8));
        Expect.same("byte 16 as well", 0x09, x.byteAt(size - 2));
        Expect.argument("no more records", () -> x.taken(9, 0));
    }

    // ---- promise 6

    private static long number(BatchBroker x, int at, int count) {
        long number = 0;
        for (int i = 0; i < count; i++) {
            number = number << 8 | x.spoil(at + i, 0);
        }
        return number;
    }

    private static void sealEdges() {
        Expect.sentence("seal: Illegal argument: time is not 0 .. 2^49");
        BatchBroker x = small();
        x.record(1, 0, 0, 0, 0, 0);
        Expect.argument("-1", () -> x.seal(0, 0, 0, -1));
        Expect.argument("2^49 + 1", () -> x.seal(0, 0, 0, (1L << 49) + 1));
        Expect.argument("least", () -> x.seal(0, 0, 0, Long.MIN_VALUE));
        Expect.argument("most", () -> x.seal(0, 0, 0, Long.MAX_VALUE));
        Expect.same("nothing came", 0, x.trim(0));
        Expect.same("0", 68, x.seal(0, 0, 0, 0));
        Expect.same("2^49, without records", 129, x.seal(0, 0, 0, 1L << 49));
        Expect.sentence("The draft (without records, too) becomes a batch: LAST COUNT - 1, GREATEST TIME 0 without any");
        Expect.same("LENGTH", 49, number(x, 68 + 8, 4));
        Expect.same("LAST", 0xffffffffL, number(x, 68 + 23, 4));
        Expect.same("FIRST TIME", 1L << 49, number(x, 68 + 27, 8));
        Expect.same("GREATEST TIME", 0, number(x, 68 + 35, 8));
        Expect.same("COUNT", 0, number(x, 68 + 57, 4));
        BatchBroker y = small();
        y.seal(NONE, NONE, NONE, 0);
        Expect.same("its fault is a FIELD", 2, y.fault(0));
        Expect.same("COUNT, as LAST is COUNT - 1", 57, y.fault(1));
        Expect.sentence("of EPOCH and SEQUENCE the lowest bytes");
        BatchBroker z = small();
        z.seal(Long.MIN_VALUE, 0x12345678, Integer.MIN_VALUE, 0);
        Expect.same("PRODUCER", Long.MIN_VALUE, number(z, 43, 8));
        Expect.same("EPOCH", 0x5678, number(z, 51, 2));
        Expect.same("SEQUENCE", 0x80000000L, number(z, 53, 4));
        z.trim(61);
        z.record(1, 0, 0, 0, 0, 0);
        z.seal(4, 65536 + 32767, 0, 0);
        z.produce(0);
        Expect.same("65536 more is the same", 32767, z.known(0, 4, 1));
        Expect.sentence("seal: illegal state: there would be more than 16384");
        BatchBroker w = small();
        tapeTo(w, 16384 - 68 + 1);
        w.record(1, 0, 0, 0, 0, 0);
        Expect.state("a byte too many", () -> w.seal(0, 0, 0, 0));
        Expect.argument("of several exceptions the one named first", () -> w.seal(0, 0, 0, -1));
        Expect.same("the tape stays", 16384 - 68, w.trim(1));
        Expect.same("just enough, and the draft had stayed", 16384, w.seal(0, 0, 0, 0));
        Expect.same("the draft is empty then", 1, w.record(1, 0, 0, 0, 0, 0));
    }

    // ---- promise 7, and 1 BATCHES

    private static final byte[] RECORD = Model.recordBytes(0, 0, bytes(1), bytes(2, 3));

    private static byte[] batch(long first, long greatest, int count, byte[]... records) {
        return Model.batchBytes(0, count - 1, first, greatest, NONE, NONE, NONE, count, Send.join(records));
    }

    private static byte[] put(byte[] row, int at, int bytes, long number) {
        for (int i = 0; i < bytes; i++) {
            row[at + i] = (byte) (number >> 8 * (bytes - 1 - i));
        }
        return Model.checksummed(row);
    }

    /** What the tape's fault is, and that such a batch is sent, or is not. */
    private static void faultOf(String what, int kind, int place, byte[] row) {
        BatchBroker x = new BatchBroker(1, 16, 64);
        Send.feed(x, row);
        Expect.same(what + ": kind", kind, x.fault(0));
        Expect.same(what + ": place", place, x.fault(1));
        Expect.same(what + ": produce", kind == 0 ? 0 : BatchBroker.FAULT, x.produce(0));
        Expect.same(what + ": batches", kind == 0 ? 1 : 0, x.log(0, 3));
        Expect.same(what + ": the tape is empty", 0, x.trim(0));
    }

    private static void faultEdges() {
        Expect.sentence("fault: what = 0, 1; Illegal argument: what is none of these; NONE for none");
        BatchBroker x = small();
        Expect.argument("-1", () -> x.fault(-1));
        Expect.argument("2", () -> x.fault(2));
        x.record(1, 0, 0, 0, 0, 0);
        x.seal(NONE, NONE, NONE, 0);
        Expect.same("0 for none", 0, x.fault(0));
        Expect.same("NONE for none", NONE, x.fault(1));
        Expect.sentence("1 LENGTH, at 8: it has less than 61 bytes, or LENGTH is not 12 less than it has");
        byte[] good = batch(5, 5, 1, RECORD);
        faultOf("no bytes", 1, 8, bytes());
        for (int size = 8; size <= 60; size += 13) {
            byte[] row = Arrays.copyOf(good, size);
            if (size >= 12) {
                ByteBuffer.wrap(row).putInt(8, size - 12);
            }
            faultOf(size + " bytes", 1, 8, row);
        }
        faultOf("61 bytes", 4, 61, put(Arrays.copyOf(good, 61), 8, 4, 49));
        faultOf("a byte more than LENGTH tells", 1, 8, Arrays.copyOf(good, good.length + 1));
        faultOf("a byte less than LENGTH tells", 1, 8, Arrays.copyOf(good, good.length - 1));
        long[] lengths = {0, good.length, good.length - 13, good.length - 11, -1, Integer.MIN_VALUE, Integer.MAX_VALUE};
        for (long length : lengths) {
            faultOf("LENGTH " + length, 1, 8, put(good.clone(), 8, 4, length));
        }
        fieldEdges();
        varintEdges();
        recordEndEdges();
        recordTimeEdges();
        order();
    }

    /** A field's number that is wrong, in an otherwise good batch of a producer. */
    private static void field(String what, int at, int bytes, long number) {
        byte[] row = Model.batchBytes(0, 0, 5, 5, 3, 0, 0, 1, RECORD);
        faultOf(what + " " + number, 2, at, put(row, at, bytes, number));
    }

    private static void fieldEdges() {
        Expect.sentence("2 FIELD, at the first byte of the first one, from the left, that is wrong");
        long[] notZero = {1, -1, 256, Long.MIN_VALUE};
        for (long number : notZero) {
            field("BASE", 0, 8, number);
        }
        field("TERM", 12, 4, 1);
        field("TERM", 12, 4, Integer.MIN_VALUE);
        int[] marks = {0, 1, 3, 130, 255};
        for (int mark : marks) {
            field("MARK", 16, 1, mark);
        }
        field("FLAGS", 21, 2, 1);
        field("FLAGS", 21, 2, 0x8000);
        field("LAST", 23, 4, 1);
        field("LAST", 23, 4, -1);
        long[] times = {-1, TOP + 1, Long.MIN_VALUE, Long.MAX_VALUE};
        for (long time : times) {
            field("FIRST TIME", 27, 8, time);
            field("GREATEST TIME", 35, 8, time);
        }
        long[] producers = {-2, TOP + 1, Long.MIN_VALUE, Long.MAX_VALUE};
        for (long producer : producers) {
            field("PRODUCER", 43, 8, producer);
        }
        field("EPOCH", 51, 2, -1);
        field("EPOCH", 51, 2, -32768);
        field("SEQUENCE", 53, 4, -1);
        field("SEQUENCE", 53, 4, Integer.MIN_VALUE);
        Expect.sentence("EPOCH and SEQUENCE not -1 if PRODUCER is");
        int[] others = {0, -2, 32767};
        for (int other : others) {
            faultOf("EPOCH " + other, 2, 51, Model.batchBytes(0, 0, 5, 5, NONE, other, NONE, 1, RECORD));
            faultOf("SEQUENCE " + other, 2, 53, Model.batchBytes(0, 0, 5, 5, NONE, NONE, other, 1, RECORD));
        }
        Expect.sentence("LAST not COUNT - 1 (as whole numbers), COUNT not 1 .. 1000");
        int[][] counts = {{-1, 0, 57}, {-2, -1, 57}, {1000, 1001, 57}, {Integer.MAX_VALUE, Integer.MIN_VALUE, 23},
            {Integer.MAX_VALUE - 1, Integer.MAX_VALUE, 57}, {0, 0, 23}, {0, 2, 23}, {999, 1001, 23}};
        for (int[] c : counts) {
            byte[] row = Model.batchBytes(0, c[0], 5, 5, 3, 0, 0, c[1], RECORD);
            faultOf("LAST " + c[0] + ", COUNT " + c[1], 2, c[2], row);
        }
        Expect.sentence("the bounds of the fields themselves are no fault");
        faultOf("times of 0", 0, NONE, batch(0, 0, 1, RECORD));
        faultOf("times of 2^50", 0, NONE, batch(TOP, TOP, 1, RECORD));
        faultOf("PRODUCER 0, EPOCH 0, SEQUENCE 0", 0, NONE, Model.batchBytes(0, 0, 5, 5, 0, 0, 0, 1, RECORD));
        faultOf("PRODUCER 2^50, EPOCH 2^15 - 1, SEQUENCE 2^31 - 1", 0, NONE,
                Model.batchBytes(0, 0, 5, 5, TOP, 32767, Integer.MAX_VALUE, 1, RECORD));
    }

    private static void varintEdges() {
        Expect.sentence("A VARINT: in pieces of 7 bits, no more pieces than are needed (1 for 0, ten at most)");
        long[][] sizes = {{0, 1}, {63, 1}, {-64, 1}, {64, 2}, {-65, 2}, {8191, 2}, {-8192, 2}, {8192, 3}, {-8193, 3},
            {(1L << 48) - 1, 7}, {-(1L << 48), 7}, {1L << 48, 8}, {-(1L << 48) - 1, 8}, {TOP - 5, 8}};
        for (long[] s : sizes) {
            long first = s[0] < 0 ? TOP : 5;
            byte[] record = Model.recordBytes(s[0], 0, null, null);
            Expect.same("bytes of " + s[0], 6 + s[1], record.length);
            faultOf("difference " + s[0], 0, NONE, batch(first, first + s[0], 1, record));
        }
        Expect.sentence("other rows of bytes are no varint");
        byte[][] forms = {bytes(0x80, 0), bytes(0x80, 0x80, 0), bytes(0x82, 0x80, 0),
            bytes(0x80, 0x80, 0x80, 0x80, 0x80, 0x80, 0x80, 0x80, 0x80, 0),
            bytes(0x80, 0x80, 0x80, 0x80, 0x80, 0x80, 0x80, 0x80, 0x80, 2),
            bytes(0x80, 0x80, 0x80, 0x80, 0x80, 0x80, 0x80, 0x80, 0x80, 0x80, 0),
            bytes(0x82, 0x80, 0x80, 0x80, 0x80, 0x80, 0x80, 0x80, 0x80, 0x81, 0)};
        for (byte[] form : forms) {
            byte[] body = Send.join(bytes(0), form, bytes(0, 1, 1, 0));
            byte[] record = Send.join(Model.varint(body.length), body);
            faultOf("time " + Arrays.toString(form), 4, 61, batch(5, 5, 1, record));
        }
        faultOf("the length in a piece too many", 4, 61, batch(5, 5, 1, bytes(0x8c, 0, 0, 0, 0, 1, 1, 0)));
        faultOf("the offset in a piece too many", 4, 61, batch(5, 5, 1, bytes(14, 0, 0, 0x80, 0, 1, 1, 0)));
        faultOf("the key's length in a piece too many", 4, 61, batch(5, 5, 1, bytes(14, 0, 0, 0, 0x81, 0, 1, 0)));
        faultOf("the value's length in a piece too many", 4, 61, batch(5, 5, 1, bytes(14, 0, 0, 0, 1, 0x81, 0, 0)));
        faultOf("a length whose pieces have no end", 4, 61, batch(5, 5, 1, bytes(0x8c, 0x80)));
    }

    private static void recordEndEdges() {
        byte[] good = Model.recordBytes(0, 0, null, null);
        byte[] second = Model.recordBytes(0, 1, null, null);
        Expect.sentence("4 RECORD, at the first byte of the first record that is not as said");
        int[][] wrong = {{12, 1, 0, 2, 1, 1, 0}, {12, 0, 0, 2, 1, 1, 1}, {12, 255, 0, 2, 1, 1, 0},
            {12, 0, 0, 2, 3, 1, 0}, {12, 0, 0, 2, 1, 3, 0}};
        for (int[] w : wrong) {
            faultOf(Arrays.toString(w), 4, 61 + good.length, batch(5, 5, 2, good, bytes(w)));
            faultOf(Arrays.toString(w) + " ahead of a third", 4, 61 + good.length,
                    batch(5, 5, 3, good, bytes(w), Model.recordBytes(0, 7, null, null)));
        }
        Expect.sentence("does not end where it says and within the batch");
        int[][] ends = {{0}, {1}, {2, 0}, {10, 0, 0, 2, 1, 1, 0}, {14, 0, 0, 2, 1, 1, 0}, {14, 0, 0, 2, 1, 1, 0, 0},
            {12, 0, 0, 2, 2, 1, 0}, {12, 0, 0, 2, 1, 2, 0}, {126, 0, 0, 2, 1, 1, 0}};
        for (int[] e : ends) {
            faultOf(Arrays.toString(e), 4, 61 + good.length, batch(5, 5, 2, good, bytes(e)));
        }
        byte[] longest = Send.join(Model.varint(Long.MAX_VALUE), bytes(0, 0, 2, 1, 1, 0));
        faultOf("2^63 - 1 bytes", 4, 61 + good.length, batch(5, 5, 2, good, longest));
        Expect.sentence("has not its number (from 0 on) as offset less BASE");
        long[] numbers = {0, 2, -1, Long.MAX_VALUE, (1L << 32) + 1};
        for (long number : numbers) {
            faultOf("number " + number, 4, 61 + good.length,
                    batch(5, 5, 2, good, Model.recordBytes(0, number, null, null)));
        }
        faultOf("the first has number 1", 4, 61, batch(5, 5, 2, second, second));
        Expect.sentence("at the number of bytes, if they end before one begins");
        faultOf("none of one", 4, 61, batch(5, 5, 1));
        faultOf("one of two", 4, 61 + good.length, batch(5, 5, 2, good));
        Expect.sentence("or at the byte behind the last one, if there is one");
        faultOf("a byte", 4, 61 + good.length, batch(5, 5, 1, good, bytes(0)));
        faultOf("a whole record", 4, 61 + good.length, batch(5, 5, 1, good, second));
    }

    private static void recordTimeEdges() {
        Expect.sentence("or a time that is not 0 .. 2^50 (its difference to FIRST TIME being any 64-bit number, "
                + "the sum not wrapping)");
        long[][] times = {{10, -10, 0}, {10, -11, 4}, {0, 0, 0}, {0, -1, 4}, {10, TOP - 10, 0}, {10, TOP - 9, 4},
            {TOP, 0, 0}, {TOP, 1, 4}, {TOP, -TOP, 0}, {TOP, -TOP - 1, 4}, {0, Long.MAX_VALUE, 4}, {0, Long.MIN_VALUE, 4},
            {TOP, Long.MAX_VALUE, 4}, {TOP, Long.MAX_VALUE - TOP + 1, 4}, {TOP, Long.MIN_VALUE, 4},
            {1, Long.MAX_VALUE, 4}};
        for (long[] t : times) {
            byte[] record = Model.recordBytes(t[1], 0, null, null);
            long greatest = t[2] == 0 ? t[0] + t[1] : 0;
            faultOf(t[0] + " and " + t[1], (int) t[2], t[2] == 0 ? NONE : 61, batch(t[0], greatest, 1, record));
        }
        Expect.sentence("5 TIME, at 35: GREATEST TIME is not the greatest time of its records");
        byte[] one = Model.recordBytes(-7, 0, null, null);
        byte[] two = Model.recordBytes(-5, 1, null, null);
        byte[] three = Model.recordBytes(-6, 2, null, null);
        long[][] greatest = {{15, 0}, {14, 5}, {16, 5}, {13, 5}, {20, 5}, {0, 5}, {TOP, 5}};
        for (long[] g : greatest) {
            faultOf("GREATEST TIME " + g[0], (int) g[1], g[1] == 0 ? NONE : 35, batch(20, g[0], 3, one, two, three));
        }
    }

    private static void order() {
        Expect.sentence("FAULT, which is the first one of: LENGTH, FIELD, CHECKSUM, RECORD, TIME");
        byte[] row = Send.join(batch(5, 6, 1, RECORD), bytes(0));
        row[22] = 1;
        faultOf("all of them", 1, 8, row);
        ByteBuffer.wrap(row).putInt(8, row.length - 12);
        faultOf("all but LENGTH", 2, 21, row);
        row[22] = 0;
        row[17]++;
        faultOf("CHECKSUM, RECORD and TIME", 3, 17, row);
        Model.checksummed(row);
        faultOf("RECORD and TIME", 4, row.length - 1, row);
        row = Arrays.copyOf(row, row.length - 1);
        ByteBuffer.wrap(row).putInt(8, row.length - 12);
        Model.checksummed(row);
        faultOf("TIME", 5, 35, row);
        faultOf("none", 0, NONE, put(row, 35, 8, 5));
        Expect.sentence("CHECKSUM (4; of all bytes behind it)");
        byte[] good = batch(5, 5, 1, RECORD);
        for (int i = 17; i < good.length; i++) {
            byte[] spoilt = good.clone();
            spoilt[i] ^= 1;
            // in the head there is a field that may have another number just in the last byte of a time
            boolean isField = i >= 21 && i < 61 && i != 34 && i != 42;
            if (!isField) {
                faultOf("byte " + i, 3, 17, spoilt);
            }
        }
    }

    public static void main(String[] args) {
        newObject();
        feedEdges();
        trimEdges();
        spoilEdges();
        recordEdges();
        sealEdges();
        faultEdges();
        Expect.end("BatchEdgeTest");
    }
}
