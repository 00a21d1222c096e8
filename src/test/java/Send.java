import java.io.ByteArrayOutputStream;
import java.nio.ByteBuffer;
import java.util.Arrays;

/** Short ways to put batches on the tape and into logs; each counts as the calls that it makes. */
final class Send {
    private Send() {
    }

    /** Any bytes at all behind the tape: one call for twenty of them, and a last one. */
    static void feed(BatchBroker x, byte[] row) {
        ByteBuffer b = ByteBuffer.wrap(Arrays.copyOf(row, (row.length + 19) / 20 * 20));
        while (b.hasRemaining()) {
            x.feed(b.getInt(), b.getInt(), b.getInt(), b.getInt(), b.getInt());
        }
        x.trim((20 - row.length % 20) % 20);
    }

    static byte[] join(byte[]... rows) {
        ByteArrayOutputStream all = new ByteArrayOutputStream();
        for (byte[] row : rows) {
            all.writeBytes(row);
        }
        return all.toByteArray();
    }

    /** n records with keys key, key + 1, .. of one byte and values of eight, from a producer. */
    static long batch(BatchBroker x, int log, long producer, int sequence, int n, int key, long time) {
        return batch(x, log, producer, 0, sequence, n, key, time);
    }

    static long batch(BatchBroker x, int log, long producer, int epoch, int sequence, int n, int key, long time) {
        x.record(n, key, 1, 7, 8, 0);
        x.seal(producer, producer < 0 ? -1 : epoch, producer < 0 ? -1 : sequence, time);
        return x.produce(log);
    }

    /** One record without producer and with a value of so many bytes (300 at most); 66 bytes and more are added. */
    static long one(BatchBroker x, int log, int key, int valueBytes, long time) {
        x.record(1, key, 1, 5, valueBytes, 0);
        x.seal(-1, -1, -1, time);
        return x.produce(log);
    }

    /** A batch of exactly 1024 bytes, or as many more as are asked for (30 at most). */
    static long block(BatchBroker x, int log, int more) {
        x.record(3, 0, -1, 0, 300, 0);
        x.record(1, 0, -1, 0, 29 + more, 0);
        x.seal(-1, -1, -1, 0);
        return x.produce(log);
    }

    /** Puts a batch of exactly so many bytes (68 .. 16061, not 126) behind the tape, without producer and keys. */
    static void exact(BatchBroker x, int size) {
        int rest = size - 61;
        int number = 0;
        while (rest > 309) {
            int valueBytes = rest > 409 ? 300 : 200;
            x.record(1, 0, -1, 0, valueBytes, 0);
            rest -= valueBytes + 9;
            number++;
        }
        // lengths of two bytes come in at once, so that a record of 72 bytes needs a time of two bytes
        int later = rest == 72 ? 64 : 0;
        int valueBytes = 0;
        while (Model.recordBytes(later, number, null, new byte[valueBytes]).length < rest) {
            valueBytes++;
        }
        x.record(1, 0, -1, 0, valueBytes, later);
        x.seal(-1, -1, -1, 0);
    }

    /** Sends a batch of exactly so many bytes. */
    static long exact(BatchBroker x, int log, int size) {
        exact(x, size);
        return x.produce(log);
    }

    /** All bytes of the tape, a call each. */
    static byte[] tape(BatchBroker x) {
        byte[] row = new byte[x.trim(0)];
        for (int i = 0; i < row.length; i++) {
            row[i] = (byte) x.spoil(i, 0);
        }
        return row;
    }

    /** All bytes that were fetched, a call each. */
    static byte[] fetched(BatchBroker x, int count) {
        byte[] row = new byte[count];
        for (int i = 0; i < count; i++) {
            row[i] = (byte) x.byteAt(i);
        }
        return row;
    }
}
