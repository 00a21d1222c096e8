import java.util.Arrays;

/** The boundary cases that the document names of producers and logs, sentence by sentence. */
public final class LogEdgeTest {
    private static final int NONE = BatchBroker.NONE;
    private static final int FULL = BatchBroker.FULL;
    private static final int CUT = BatchBroker.CUT;
    private static final int LARGE = BatchBroker.LARGE;
    private static final int FENCED = BatchBroker.FENCED;
    private static final int GAP = BatchBroker.GAP;
    private static final int OUTSIDE = BatchBroker.OUTSIDE;

    /** A record with a key of one byte, alone in its batch, without producer. */
    private static long put(BatchBroker x, int log, int key, int valueBytes, long time) {
        x.record(1, key, 1, 7, valueBytes, 0);
        x.seal(NONE, NONE, NONE, time);
        return x.produce(log);
    }

    /** A batch of so many records without keys from a producer; 61 bytes and 7 for each. */
    private static long send(BatchBroker x, int log, long producer, int epoch, int sequence, int count) {
        x.record(count, 0, NONE, 0, NONE, 0);
        x.seal(producer, epoch, sequence, 0);
        return x.produce(log);
    }

    // ---- which logs there are

    private static void logNumbers() {
        Expect.sentence("illegal argument: there is no such log");
        BatchBroker x = new BatchBroker(2, 1, 32);
        int[] wrong = {-1, 3, Integer.MIN_VALUE, Integer.MAX_VALUE};
        for (int log : wrong) {
            Expect.argument("produce " + log, () -> x.produce(log));
            Expect.argument("known " + log, () -> x.known(log, 0, 0));
            Expect.argument("log " + log, () -> x.log(log, 0));
            Expect.argument("fetch " + log, () -> x.fetch(log, 0, 0));
            Expect.argument("find " + log, () -> x.find(log, 0));
            Expect.argument("retain " + log, () -> x.retain(log, 0));
            Expect.argument("compact " + log, () -> x.compact(log));
            Expect.argument("commit " + log, () -> x.commit(0, 0, 0, log, 0));
            Expect.argument("committed " + log, () -> x.committed(0, log));
        }
        Expect.sentence("Illegal argument: also for the own log");
        Expect.argument("produce", () -> x.produce(2));
        Expect.argument("retain", () -> x.retain(2, 0));
        Expect.argument("commit", () -> x.commit(0, 0, 0, 2, 0));
        Expect.argument("committed", () -> x.committed(0, 2));
        Expect.sentence("LOGS are 0 .. n - 1, for producers, and n, the broker's OWN one");
        for (int log = 0; log <= 2; log++) {
            Expect.same("known", 0, x.known(log, 0, 0));
            Expect.same("log", 0, x.log(log, 0));
            Expect.same("fetch", 0, x.fetch(log, 0, 0));
            Expect.same("find", NONE, x.find(log, 0));
            Expect.same("compact", 0, x.compact(log));
        }
    }

    // ---- promise 8

    private static void producerNumbers() {
        Expect.sentence("When the next one is not [reserved], a hundred more are (block 0 is written)");
        BatchBroker x = new BatchBroker(1, 1, 32);
        for (int i = 0; i < 100; i++) {
            x.producer();
        }
        Expect.same("a hundred with one block", 1, x.writes());
        Expect.same("the hundred and first", 100, x.producer());
        Expect.same("with another", 2, x.writes());
        x.crash(1);
        for (int i = 101; i < 200; i++) {
            x.producer();
        }
        Expect.same("all reserved ones without a block", 0, x.isDown() ? 1 : 0);
        Expect.same("the next one is not reserved", CUT, x.producer());
        Expect.sentence("Behind recovery the next one is the first that was not reserved then");
        x.recover();
        Expect.same("block 0 was written", 300, x.producer());
        x.recover();
        Expect.same("with one number given of a hundred", 400, x.producer());
        BatchBroker y = new BatchBroker(1, 1, 32);
        y.recover();
        Expect.same("none was reserved", 0, y.producer());
        y.crash(0);
        Expect.state("down", y::producer);
        y.recover();
        Expect.same("a hundred were", 100, y.producer());
    }

    // ---- appending

    private static void roomInSegments() {
        Expect.sentence("It comes behind those in the open segment if there is room for it, else into a new one");
        BatchBroker x = new BatchBroker(1, 2, 64);
        Send.exact(x, 0, 1000);
        Expect.same("just enough room", 4, Send.exact(x, 0, 1048));
        Expect.same("one segment", 1, x.log(0, 2));
        Send.exact(x, 0, 1000);
        Expect.same("a byte too many", 12, Send.exact(x, 0, 1049));
        Expect.same("a third segment", 3, x.log(0, 2));
        Expect.same("the room of the second stays empty, as the third is open", 16, Send.exact(x, 0, 999));
        Expect.same("three segments", 3, x.log(0, 2));
        Expect.same("free", 61 - 6, x.free());
        Expect.same("bytes", 1000 + 1048 + 1000 + 1049 + 999, x.log(0, 5));
        Expect.same("audit", 0, x.audit());
    }

    /** In a first batch of so many bytes, then one: how many blocks the second one writes. */
    private static int blocksOf(int first, int second) {
        BatchBroker x = new BatchBroker(1, 4, 32);
        Send.exact(x, 0, first);
        int before = x.writes();
        Send.exact(x, 0, second);
        Expect.same(first + " and " + second + " in one segment", 1, x.log(0, 2));
        Expect.same("audit", 0, x.audit());
        return x.writes() - before;
    }

    private static void blocksWritten() {
        Expect.sentence("The blocks are written in which its bytes lie, in their order, then the log's head");
        int[][] cases = {{1024, 1024, 2}, {1024, 1025, 3}, {1023, 68, 3}, {1023, 1025, 3}, {1023, 1026, 4},
            {900, 124, 2}, {900, 125, 3}, {900, 1148, 3}, {900, 1149, 4}, {100, 2000, 4}, {1000, 3096, 5}, {68, 3000, 4},
            {2048, 2048, 3}, {2047, 2049, 4}, {955, 69, 2}};
        for (int[] c : cases) {
            Expect.same("blocks behind " + c[0] + " for " + c[1], c[2], blocksOf(c[0], c[1]));
        }
        Expect.sentence("then it is there: CUT, and is there behind recovery just if its last block was written");
        for (int n = 1; n <= 5; n++) {
            BatchBroker x = new BatchBroker(1, 4, 32);
            Send.exact(x, 0, 1023);
            Send.exact(x, 1026);
            x.crash(n);
            Expect.same("cut by block " + n, n < 5 ? CUT : 4, x.produce(0));
            Expect.same("down", n < 5 ? 1 : 0, x.isDown() ? 1 : 0);
            Expect.same("writes", 2 + Math.min(n, 4), x.writes());
            Expect.same("batches", n < 4 ? 1 : 2, x.recover());
            Expect.same("END", n < 4 ? 4 : 8, x.log(0, 1));
            Expect.same("the first one is whole", 1023, x.fetch(0, 0, 1023));
            Expect.same("its last byte", 0, x.byteAt(1022));
            Expect.same("audit", 0, x.audit());
            Expect.same("the next one", n < 4 ? 4 : 8, Send.exact(x, 0, 1026));
            Expect.same("audit", 0, x.audit());
        }
        Expect.sentence("where other bytes lay before, a batch is there from its first byte to its last");
        BatchBroker y = new BatchBroker(1, 1, 32);
        for (int i = 0; i < 29; i++) {
            y.record(3, -1, 8, -1, 290, 0);
            y.seal(NONE, NONE, NONE, 0);
            y.produce(0);
        }
        y.retain(0, 0);
        Expect.same("it begins where records of other bytes lay", 87, Send.exact(y, 0, 1024));
        Expect.same("bytes", 1024, y.fetch(0, 87, 0));
        byte[] due = Model.batchBytes(87, 3, 0, 0, NONE, NONE, NONE, 4,
                Send.join(Model.recordBytes(0, 0, null, new byte[300]), Model.recordBytes(0, 1, null, new byte[300]),
                        Model.recordBytes(0, 2, null, new byte[200]), Model.recordBytes(0, 3, null, new byte[127])));
        // an object is for 512 calls: not every byte is looked at
        for (int i = 0; i < 1024; i += i < 61 || i > 1000 ? 1 : 5) {
            Expect.same("byte " + i, due[i] & 255, y.byteAt(i));
        }
    }

    private static void fullDisk() {
        Expect.sentence("FULL if there are no such blocks: There is no room on the disk; nothing was changed or written");
        BatchBroker x = new BatchBroker(1, 3, 32);
        for (int i = 0; i < 9; i++) {
            Expect.same("segment " + i, 10 * i, Send.exact(x, 0, 3000));
        }
        Expect.same("two blocks are left, fewer than a segment has", 2, x.free());
        x.crash(1);
        String before = Seen.all(x);
        Expect.same("a byte more than the open one has room for", FULL, Send.exact(x, 0, 73));
        Expect.same("nothing was changed or written", before, Seen.all(x));
        x.crash(NONE);
        Expect.same("the open one has room", 90, Send.exact(x, 0, 72));
        Expect.same("full to the last byte", FULL, Send.exact(x, 0, 68));
        Expect.same("behind recovery", 10, x.recover());
        Expect.same("full still", FULL, Send.exact(x, 0, 68));
        Expect.same("one segment goes", 1, x.retain(0, 8 * 3000 + 72));
        Expect.same("then there is room", 91, Send.exact(x, 0, 68));
        sixtySegments();
    }

    private static void sixtySegments() {
        Expect.sentence("FULL if there are 60 segments; A log has at most 60 segments");
        BatchBroker x = new BatchBroker(1, 1, 256);
        for (int i = 0; i < 60; i++) {
            put(x, 0, 1, 300, 0);
            Expect.same("batch " + i, 2 * i + 1, put(x, 0, 1, 300, 0));
            Expect.same("segments", i + 1, x.log(0, 2));
        }
        int writes = x.writes();
        Expect.same("the open one has no room for 371", FULL, put(x, 0, 1, 300, 0));
        Expect.same("nothing written", writes, x.writes());
        Expect.same("END", 120, x.log(0, 1));
        Expect.same("193 blocks are free", 193, x.free());
        Expect.same("the open one has room for 282", 120, Send.exact(x, 0, 282));
        Expect.same("compaction leaves the open one, and none of the closed, whose keys came again", 118, x.compact(0));
        Expect.same("one segment", 1, x.log(0, 2));
        Expect.same("then there is room", 121, put(x, 0, 1, 300, 0));
        Expect.same("two segments", 2, x.log(0, 2));
        Expect.same("audit", 0, x.audit());
    }

    // ---- promise 9: what a log knows

    private static void largeBatches() {
        Expect.sentence("LARGE: it has more than 1024 S bytes");
        for (int s = 1; s <= 15; s += 7) {
            BatchBroker x = new BatchBroker(1, s, 64);
            Expect.same("a byte more, S " + s, LARGE, Send.exact(x, 0, 1024 * s + 1));
            Expect.same("nothing written", 0, x.writes());
            Expect.same("just as many, S " + s, 0, Send.exact(x, 0, 1024 * s));
            Expect.same("blocks and head", s + 1, x.writes());
        }
        Expect.sentence("the tape is empty then, whatever the answer is");
        BatchBroker y = new BatchBroker(1, 1, 32);
        Send.exact(y, 0, 1025);
        Expect.same("LARGE", 0, y.trim(0));
        y.feed(1, 2, 3, 4, 5);
        Expect.same("a fault", BatchBroker.FAULT, y.produce(0));
        Expect.same("FAULT", 0, y.trim(0));
        Expect.same("an empty tape has a fault", BatchBroker.FAULT, y.produce(0));
        send(y, 0, 3, 5, 5, 1);
        Expect.same("FENCED", FENCED, send(y, 0, 3, 4, 6, 1));
        Expect.same("FENCED", 0, y.trim(0));
        Expect.same("GAP", GAP, send(y, 0, 3, 5, 7, 1));
        Expect.same("GAP", 0, y.trim(0));
        Expect.same("there already", 0, send(y, 0, 3, 5, 5, 1));
        Expect.same("there already", 0, y.trim(0));
        send(y, 0, NONE, NONE, NONE, 1);
        y.record(1, 0, 0, 0, 0, 0);
        y.seal(NONE, NONE, NONE, 0);
        y.crash(1);
        Expect.same("CUT", CUT, y.produce(0));
        Expect.same("CUT", 0, y.trim(0));
    }

    private static void orderOfAnswers() {
        Expect.sentence("produce() asks in this order: LARGE, FENCED, there, GAP, FULL");
        BatchBroker x = new BatchBroker(1, 1, 32);
        for (int i = 0; i < 28; i++) {
            Send.exact(x, 0, 1024);
        }
        long base = send(x, 0, 3, 5, 7, 10);
        Send.exact(x, 0, 1024 - 131);
        Expect.same("no room at all", 0, x.free());
        Expect.same("FULL", FULL, send(x, 0, 3, 5, 17, 10));
        Expect.same("GAP before FULL", GAP, send(x, 0, 3, 5, 18, 10));
        Expect.same("GAP before FULL, with a greater EPOCH", GAP, send(x, 0, 3, 6, 17, 10));
        Expect.same("FULL with a greater EPOCH", FULL, send(x, 0, 3, 6, 0, 10));
        Expect.same("there before FULL", base, send(x, 0, 3, 5, 7, 10));
        Expect.same("FENCED before FULL", FENCED, send(x, 0, 3, 4, 17, 10));
        x.record(4, 0, NONE, 0, 300, 0);
        x.seal(3, 4, 0, 0);
        Expect.same("LARGE before FENCED", LARGE, x.produce(0));
        x.record(4, 0, NONE, 0, 300, 0);
        x.record(6, 0, NONE, 0, 0, 0);
        x.seal(3, 5, 7, 0);
        Expect.same("LARGE before there", LARGE, x.produce(0));
        x.record(4, 0, NONE, 0, 300, 0);
        x.seal(3, 5, 99, 0);
        Expect.same("LARGE before GAP", LARGE, x.produce(0));
        x.record(4, 0, NONE, 0, 300, 0);
        x.seal(3, -5, 99, 0);
        Expect.same("FAULT before LARGE", BatchBroker.FAULT, x.produce(0));
    }

    private static void latestFive() {
        Expect.sentence("WHAT A LOG KNOWS of a producer (not -1) are the latest five (all, if less) of its batches");
        BatchBroker x = new BatchBroker(1, 2, 64);
        for (int i = 0; i < 6; i++) {
            Expect.same("known before " + i, Math.min(i, 5), x.known(0, 3, 0));
            send(x, 0, 3, 0, i, 1);
        }
        Expect.same("five of six", 5, x.known(0, 3, 0));
        Expect.same("the fifth latest is there", 1, send(x, 0, 3, 0, 1, 1));
        Expect.same("the sixth latest is a gap", GAP, send(x, 0, 3, 0, 0, 1));
        Expect.same("others between do not count", 6, send(x, 0, 4, 0, 0, 1));
        Expect.same("nor those without producer", 7, send(x, 0, NONE, NONE, NONE, 1));
        Expect.same("the fifth latest is there", 1, send(x, 0, 3, 0, 1, 1));
        Expect.same("one more", 8, send(x, 0, 3, 0, 6, 1));
        Expect.same("it is the sixth now", GAP, send(x, 0, 3, 0, 1, 1));
        Expect.sentence("the same EPOCH, SEQUENCE and LAST");
        Expect.same("with one record more", GAP, send(x, 0, 3, 0, 6, 2));
        Expect.same("with other bytes", 8, Send.batch(x, 0, 3, 0, 6, 1, 9, 77));
        Expect.same("of another EPOCH", GAP, send(x, 0, 3, 1, 6, 1));
        Expect.sentence("known: Illegal argument: also if what is none of these, or the producer below 0; NONE without");
        Expect.argument("what -1", () -> x.known(0, 3, -1));
        Expect.argument("what 4", () -> x.known(0, 3, 4));
        Expect.argument("producer -1", () -> x.known(0, -1, 0));
        Expect.argument("producer least", () -> x.known(0, Long.MIN_VALUE, 0));
        Expect.same("how many of nothing", 0, x.known(0, 5, 0));
        for (int what = 1; what <= 3; what++) {
            Expect.same("of nothing", NONE, x.known(0, 5, what));
        }
        Expect.same("the greatest producer", NONE, x.known(0, Long.MAX_VALUE, 3));
        Expect.same("a batch at BASE 0", 0, send(new BatchBroker(1, 1, 32), 0, 0, 0, 0, 1));
    }

    private static void sequences() {
        Expect.sentence("GAP: its SEQUENCE is not that of L, LAST of L and 1, modulo 2^31, if its EPOCH is that of L");
        int[][] wraps = {{Integer.MAX_VALUE, 1, 0}, {Integer.MAX_VALUE, 2, 1}, {Integer.MAX_VALUE - 1, 1, Integer.MAX_VALUE},
            {Integer.MAX_VALUE - 1, 2, 0}, {Integer.MAX_VALUE - 98, 100, 1}, {0, 1, 1}, {0, 100, 100}};
        for (int[] w : wraps) {
            BatchBroker x = new BatchBroker(1, 2, 32);
            send(x, 0, 3, 0, w[0], w[1]);
            Expect.same("next behind " + w[0], w[2], x.known(0, 3, 2));
            Expect.same("one less", w[2] == w[0] + 1 && w[1] == 1 ? 0 : GAP, send(x, 0, 3, 0, w[2] == 0 ? 5 : w[2] - 1, 1));
            Expect.same("one more", GAP, send(x, 0, 3, 0, w[2] + 1 & Integer.MAX_VALUE, 1));
            Expect.same("as due", w[1], send(x, 0, 3, 0, w[2], 1));
        }
        Expect.sentence("or not 0, if it is greater");
        BatchBroker y = new BatchBroker(1, 2, 32);
        send(y, 0, 3, 4, 8, 1);
        Expect.same("what was due before", GAP, send(y, 0, 3, 5, 9, 1));
        Expect.same("1", GAP, send(y, 0, 3, 5, 1, 1));
        Expect.same("0", 1, send(y, 0, 3, 5, 0, 1));
        Expect.same("far greater", 2, send(y, 0, 3, 32767, 0, 1));
        Expect.sentence("FENCED: its EPOCH is less than that of L");
        Expect.same("one less", FENCED, send(y, 0, 3, 32766, 1, 1));
        Expect.same("0", FENCED, send(y, 0, 3, 0, 1, 1));
        Expect.same("one that is known", FENCED, send(y, 0, 3, 5, 0, 1));
        Expect.same("as due", 3, send(y, 0, 3, 32767, 1, 1));
        Expect.sentence("One of whom the log knows nothing may send any EPOCH and SEQUENCE, also one whose number was "
                + "never given");
        Expect.same("the greatest", 4, send(y, 0, 1L << 50, 32767, Integer.MAX_VALUE, 1));
        Expect.same("the least", 5, send(y, 0, 99, 0, 0, 1));
        Expect.same("without producer, again and again", 6, send(y, 0, NONE, NONE, NONE, 1));
        Expect.same("without producer, again and again", 7, send(y, 0, NONE, NONE, NONE, 1));
    }

    private static void forgotten() {
        Expect.sentence("of its batches that are in the log");
        BatchBroker x = new BatchBroker(2, 1, 64);
        for (int i = 0; i < 7; i++) {
            x.record(3, 0, NONE, 0, 200, 0);
            x.seal(3, 9, 3 * i, 0);
            x.produce(0);
        }
        Expect.same("seven segments", 7, x.log(0, 2));
        Expect.same("five are known", 5, x.known(0, 3, 0));
        int[][] steps = {{5, 5}, {4, 4}, {1, 1}};
        for (int[] s : steps) {
            x.retain(0, s[0] * 688);
            Expect.same("known of " + s[0], s[1], x.known(0, 3, 0));
        }
        Expect.same("another log knows nothing", 0, x.known(1, 3, 0));
        Send.exact(x, 0, 1000);
        x.retain(0, 0);
        Expect.same("nothing is known", 0, x.known(0, 3, 0));
        Expect.same("a smaller EPOCH and any SEQUENCE", 25, send(x, 0, 3, 0, 77, 1));
        Expect.same("and is known", 78, x.known(0, 3, 2));
    }

    // ---- promises 11 to 15

    private static void whatOfLog() {
        Expect.sentence("log, taken: Illegal argument: also if what is none of these");
        BatchBroker x = new BatchBroker(1, 1, 32);
        Send.exact(x, 0, 100);
        x.fetch(0, 0, 0);
        int[] wrong = {-1, 6, Integer.MIN_VALUE, Integer.MAX_VALUE};
        for (int what : wrong) {
            Expect.argument("log " + what, () -> x.log(0, what));
            Expect.argument("taken " + what, () -> x.taken(0, what));
        }
        Expect.sentence("byteAt, taken: Illegal argument: there is none such");
        Expect.same("the last byte", 0, x.byteAt(99));
        Expect.same("the last record", 0, x.taken(0, 0));
        int[] places = {-1, 100, Integer.MIN_VALUE, Integer.MAX_VALUE};
        for (int i : places) {
            Expect.argument("byte " + i, () -> x.byteAt(i));
            Expect.argument("record " + i, () -> x.taken(i, 0));
        }
        Expect.argument("record 1", () -> x.taken(1, 0));
        BatchBroker y = new BatchBroker(1, 1, 32);
        Expect.argument("a byte of nothing", () -> y.byteAt(0));
        Expect.argument("a record of nothing", () -> y.taken(0, 0));
    }

    private static BatchBroker fetchable() {
        BatchBroker x = new BatchBroker(1, 1, 64);
        Send.exact(x, 0, 1000);
        Send.exact(x, 0, 900);
        send(x, 0, NONE, NONE, NONE, 2);
        x.retain(0, 975);
        return x;
    }

    private static void fetchEdges() {
        // offsets 4 .. 6 of 900 bytes, 7 and 8 of 75
        BatchBroker x = fetchable();
        Expect.sentence("fetch: OUTSIDE (what was fetched before stays) when the offset is not START .. END");
        Expect.same("START", 4, x.log(0, 0));
        Expect.same("END", 9, x.log(0, 1));
        x.fetch(0, 8, 0);
        long[] outside = {3, 10, -1, Long.MIN_VALUE, Long.MAX_VALUE};
        for (long offset : outside) {
            Expect.same("offset " + offset, OUTSIDE, x.fetch(0, offset, 32768));
            Expect.same("what was fetched stays", 7, x.taken(0, 0));
            Expect.argument("no more of it", () -> x.taken(2, 0));
        }
        Expect.sentence("fetch: as many as have no more than most bytes together, but one at least, if there is one");
        long[][] cases = {{4, 0, 900}, {4, 899, 900}, {4, 974, 900}, {4, 975, 975}, {4, 32768, 975}, {6, 975, 975},
            {7, 0, 75}, {8, 75, 75}, {8, 32768, 75}};
        for (long[] c : cases) {
            Expect.same("fetch " + Arrays.toString(c), c[2], x.fetch(0, c[0], (int) c[1]));
            Expect.same("the first record", c[0] < 7 ? 4 : 7, x.taken(0, 0));
        }
        Expect.sentence("with 0 nothing is fetched then, and what was fetched before is gone");
        Expect.same("at END", 0, x.fetch(0, 9, 32768));
        Expect.argument("no byte", () -> x.byteAt(0));
        Expect.argument("no record", () -> x.taken(0, 0));
        x.fetch(0, 4, 0);
        Expect.same("an empty log", 0, x.fetch(1, 0, 32768));
        Expect.argument("no byte", () -> x.byteAt(0));
        Expect.sentence("fetch: Illegal argument: most is not 0 .. 32768, no such log");
        x.fetch(0, 8, 0);
        Expect.argument("-1", () -> x.fetch(0, 4, -1));
        Expect.argument("32769", () -> x.fetch(0, 4, 32769));
        Expect.argument("ahead of OUTSIDE", () -> x.fetch(0, 10, -1));
        Expect.same("what was fetched stays", 7, x.taken(0, 0));
        Expect.sentence("Byte i of what was fetched last (also when the broker is DOWN since, or other things are there)");
        x.crash(0);
        Expect.same("a byte when it is down", 7, x.byteAt(7));
        Expect.same("a record when it is down", 8, x.taken(1, 0));
        Expect.state("no fetch when it is down", () -> x.fetch(0, 4, 0));
        x.recover();
        Send.exact(x, 0, 1024);
        x.retain(0, 0);
        Expect.same("other things are there", 7, x.byteAt(7));
        Expect.same("other things are there", 8, x.taken(1, 0));
    }

    private static void fetchCompacted() {
        Expect.sentence("from the first one on that has a record at an offset not less than this one (or, if it has "
                + "none, BASE and LAST together are not less)");
        BatchBroker x = new BatchBroker(1, 1, 64);
        Send.batch(x, 0, 3, 0, 3, 10, 0);
        Send.batch(x, 0, 4, 0, 3, 20, 0);
        Send.exact(x, 0, 1000);
        // of 0 .. 2 the first is left, of 3 .. 5 none
        Send.batch(x, 0, 5, 0, 2, 11, 0);
        Send.batch(x, 0, 5, 2, 3, 20, 0);
        Expect.same("compacted", 5, x.compact(0));
        long[][] cases = {{0, 77}, {1, 61}, {2, 61}, {3, 61}, {5, 61}, {6, 1000}};
        for (long[] c : cases) {
            Expect.same("fetch " + c[0], c[1], x.fetch(0, c[0], 0));
        }
        BatchBroker y = new BatchBroker(1, 1, 64);
        Send.batch(y, 0, NONE, NONE, 5, 10, 0);
        Send.exact(y, 0, 1000);
        // of 0 .. 4 the second and the fourth are left
        put(y, 0, 10, 1, 0);
        put(y, 0, 12, 1, 0);
        put(y, 0, 14, 1, 0);
        Expect.same("compacted", 3, y.compact(0));
        long[][] offsets = {{0, 1}, {1, 1}, {2, 1}, {3, 1}, {4, 5}, {5, 5}};
        for (long[] o : offsets) {
            y.fetch(0, o[0], 0);
            Expect.same("the first record from " + o[0], o[1], y.taken(0, 0));
        }
        Expect.same("found", 1, y.find(0, 0));
        Expect.same("found later", 3, y.find(0, 2));
    }

    private static void takenTexts() {
        Expect.sentence("the number of the first eight bytes of its key (or all, the highest first; 0 for none)");
        int[] sizes = {0, 1, 7, 8, 9, 200};
        for (int size : sizes) {
            byte[] text = new byte[size];
            long due = 0;
            for (int i = 0; i < size; i++) {
                text[i] = (byte) (0xf1 + i);
                due = i < 8 ? due << 8 | 0xf1 + i & 255 : due;
            }
            BatchBroker x = new BatchBroker(1, 1, 32);
            byte[] records = Send.join(Model.recordBytes(0, 0, text, null), Model.recordBytes(0, 1, null, text));
            Send.feed(x, Model.batchBytes(0, 1, 0, 0, NONE, NONE, NONE, 2, records));
            x.produce(0);
            x.fetch(0, 0, 0);
            long[][] all = {{0, 0, size, due, NONE, 0}, {1, 0, NONE, 0, size, due}};
            for (int k = 0; k < 2; k++) {
                for (int what = 0; what <= 5; what++) {
                    Expect.same("text of " + size + ", record " + k + ", " + what, all[k][what], x.taken(k, what));
                }
            }
        }
    }

    private static void findEdges() {
        Expect.sentence("The least offset of a record of a log that has a time not less than this one; NONE without one");
        BatchBroker x = new BatchBroker(1, 1, 32);
        Expect.same("in an empty log", NONE, x.find(0, 0));
        x.record(1, 0, 0, 0, 0, 9);
        x.record(1, 0, 0, 0, 0, 5);
        x.seal(NONE, NONE, NONE, 0);
        x.produce(0);
        Send.feed(x, Model.batchBytes(0, 0, 5, 1L << 50, NONE, NONE, NONE, 1,
                Model.recordBytes((1L << 50) - 5, 0, null, null)));
        x.produce(0);
        long[][] cases = {{Long.MIN_VALUE, 0}, {-1, 0}, {0, 0}, {9, 0}, {10, 2}, {1L << 50, 2}, {(1L << 50) + 1, NONE},
            {Long.MAX_VALUE, NONE}};
        for (long[] c : cases) {
            Expect.same("find " + c[0], c[1], x.find(0, c[0]));
        }
        x.join(0, 0);
        Expect.same("in the own log", 0, x.find(1, 0));
        Expect.same("later than its notes", NONE, x.find(1, 1));
    }

    // ---- promise 16

    private static void retainEdges() {
        Expect.sentence("retain: Illegal argument: bytes are below 0, or it is the own log");
        BatchBroker x = new BatchBroker(1, 1, 32);
        Expect.argument("-1", () -> x.retain(0, -1));
        Expect.argument("least", () -> x.retain(0, Integer.MIN_VALUE));
        Expect.argument("the own log", () -> x.retain(1, 0));
        Expect.same("an empty log", 0, x.retain(0, 0));
        Send.exact(x, 0, 1000);
        Expect.sentence("as long as it has a closed segment");
        int writes = x.writes();
        Expect.same("the open one never goes", 0, x.retain(0, 0));
        Expect.same("nothing is written", writes, x.writes());
        Expect.same("START stays", 0, x.log(0, 0));
        Expect.sentence("all batches but those of its first segment have b bytes or more");
        Send.exact(x, 0, 900);
        Send.exact(x, 0, 200);
        // 1000 bytes with offsets 0 .. 3, 900 with 4 .. 6, 200 with 7
        int[][] cases = {{Integer.MAX_VALUE, 0, 0}, {1101, 0, 0}, {1100, 1, 4}, {201, 0, 4}, {200, 1, 7}, {0, 0, 7}};
        for (int[] c : cases) {
            writes = x.writes();
            Expect.same("retain " + c[0], c[1], x.retain(0, c[0]));
            Expect.same("START", c[2], x.log(0, 0));
            Expect.same("END", 8, x.log(0, 1));
            Expect.same("the head", c[1], x.writes() - writes);
        }
        Expect.sentence("If one went START becomes the BASE of the first batch that is there");
        BatchBroker y = new BatchBroker(1, 1, 64);
        put(y, 0, 1, 300, 0);
        put(y, 0, 2, 300, 0);
        put(y, 0, 1, 300, 0);
        put(y, 0, 3, 300, 0);
        put(y, 0, 1, 300, 0);
        put(y, 0, 2, 300, 0);
        Send.exact(y, 0, 1000);
        Expect.same("0, 1, 2 go", 3, y.compact(0));
        Expect.same("START stays with compaction", 0, y.log(0, 0));
        Expect.same("from START on", 371, y.fetch(0, 0, 0));
        Expect.same("a closed one goes", 1, y.retain(0, 1371));
        Expect.same("START", 5, y.log(0, 0));
        Expect.sentence("retain: how many segments went; CUT");
        y.crash(1);
        Expect.same("cut", CUT, y.retain(0, 0));
        y.recover();
        Expect.same("its head was written", 6, y.log(0, 0));
        Expect.same("one segment", 1, y.log(0, 2));
        y.crash(1);
        Expect.same("nothing to be cut", 0, y.retain(0, 0));
    }

    // ---- promise 17

    private static void compactSingles() {
        Expect.sentence("a record of a closed segment that has a key GOES if a later record in the log (in any segment) "
                + "has the same key: one closed batch");
        BatchBroker x = new BatchBroker(1, 1, 32);
        x.record(3, 1, 1, 0, 300, 0);
        x.seal(NONE, NONE, NONE, 0);
        x.produce(0);
        x.record(3, 3, 1, 0, 300, 0);
        x.seal(NONE, NONE, NONE, 0);
        x.produce(0);
        Expect.same("one closed batch of three records", 2, x.log(0, 2));
        int writes = x.writes();
        Expect.same("its last record goes", 1, x.compact(0));
        Expect.same("its block and the head", 2, x.writes() - writes);
        Expect.same("two segments", 2, x.log(0, 2));
        Expect.same("two batches", 2, x.log(0, 3));
        Expect.same("five records", 5, x.log(0, 4));
        Expect.same("again", 0, x.compact(0));
        Expect.same("nothing written", writes + 2, x.writes());
        Expect.sentence("A closed segment's batch of which no record is left goes, too: one closed batch");
        BatchBroker y = new BatchBroker(1, 1, 32);
        for (int i = 0; i < 2; i++) {
            y.record(3, 1, 1, 0, 300, 0);
            y.seal(NONE, NONE, NONE, 0);
            y.produce(0);
        }
        Expect.same("all its records go", 3, y.compact(0));
        Expect.same("the open segment is left", 1, y.log(0, 2));
        Expect.same("one batch", 1, y.log(0, 3));
        Expect.same("START", 0, y.log(0, 0));
        Expect.same("free", 28, y.free());
        Expect.same("from START on", 991, y.fetch(0, 0, 0));
        Expect.same("it begins at 3", 3, y.taken(0, 0));
        Expect.same("audit", 0, y.audit());
    }

    private static void compactKeys() {
        Expect.sentence("that has a key (of no bytes, too); one without a key never does");
        int[][] cases = {{NONE, NONE, 0}, {0, 0, 1}, {0, NONE, 0}, {NONE, 0, 0}, {0, 1, 0}, {1, 1, 1}, {1, 2, 0}, {8, 8, 1}};
        for (int[] c : cases) {
            BatchBroker x = new BatchBroker(1, 1, 32);
            x.record(1, 0, c[0], 0, 300, 0);
            x.seal(NONE, NONE, NONE, 0);
            x.produce(0);
            Send.exact(x, 0, 1000);
            x.record(1, 0, c[1], 0, 0, 0);
            x.seal(NONE, NONE, NONE, 0);
            x.produce(0);
            Expect.same("keys of " + c[0] + " and " + c[1] + " bytes", c[2], x.compact(0));
        }
        Expect.sentence("keys are the same if all their bytes are, beyond the eighth, too");
        byte[][] keys = {{1, 2, 3, 4, 5, 6, 7, 8, 9}, {1, 2, 3, 4, 5, 6, 7, 8, 10}, {1, 2, 3, 4, 5, 6, 7, 8},
            {1, 2, 3, 4, 5, 6, 7, 8, 9}};
        BatchBroker x = new BatchBroker(1, 1, 32);
        for (int i = 0; i < 3; i++) {
            feedKey(x, keys[i]);
        }
        Send.exact(x, 0, 1000);
        Expect.same("none of these", 0, x.compact(0));
        feedKey(x, keys[3]);
        Expect.same("the first", 1, x.compact(0));
        x.fetch(0, 0, 0);
        Expect.same("the second is left", 1, x.taken(0, 0));
    }

    private static void feedKey(BatchBroker x, byte[] key) {
        byte[] record = Model.recordBytes(0, 0, key, new byte[2]);
        Send.feed(x, Model.batchBytes(0, 0, 0, 0, NONE, NONE, NONE, 1, record));
        x.produce(0);
    }

    private static void compactTombs() {
        Expect.sentence("or if it has no value, and a time that is not greater than TIME less 1000");
        int[][] cases = {{0, 0, NONE, 0}, {0, 999, NONE, 0}, {0, 1000, NONE, 1}, {1, 1000, NONE, 0}, {1, 1001, NONE, 1},
            {500, 1499, NONE, 0}, {500, 1500, NONE, 1}, {0, 1200, 0, 0}, {0, 1200, 1, 0}};
        for (int[] c : cases) {
            BatchBroker x = new BatchBroker(1, 1, 32);
            for (int left = c[1]; left > 0; left -= 200) {
                x.ticks(Math.min(left, 200));
            }
            put(x, 0, 1, c[2], c[0]);
            Send.exact(x, 0, 1000);
            Expect.same("of " + c[0] + " at " + c[1] + " with " + c[2], c[3], x.compact(0));
            x.record(1, 0, NONE, 0, NONE, 0);
        }
        Expect.sentence("one without a key never does");
        BatchBroker x = new BatchBroker(1, 1, 32);
        for (int i = 0; i < 6; i++) {
            x.ticks(200);
        }
        x.record(1, 0, NONE, 0, NONE, 0);
        x.seal(NONE, NONE, NONE, 0);
        x.produce(0);
        Send.exact(x, 0, 1000);
        Expect.same("without key and value", 0, x.compact(0));
        Expect.sentence("a record of a closed segment: not of the open one");
        put(x, 0, 1, NONE, 0);
        Expect.same("without value, in the open one", 0, x.compact(0));
    }

    private static void compactKnown() {
        Expect.sentence("unless the log knows it as one of a producer's");
        BatchBroker x = new BatchBroker(1, 1, 64);
        for (int i = 0; i < 6; i++) {
            Send.batch(x, 0, 3, i, 1, 5, 40 + i);
        }
        put(x, 0, 5, 300, 0);
        Send.exact(x, 0, 1000);
        // 0 .. 5 go: batch 0 is not known; 1 .. 5 are, and have 61 bytes then
        Expect.same("six go", 6, x.compact(0));
        Expect.same("five, the last, the open one", 7, x.log(0, 3));
        Expect.same("bytes", 5 * 61 + 371 + 1000, x.log(0, 5));
        Expect.same("five are known", 5, x.known(0, 3, 0));
        Expect.same("sent again", 1, Send.batch(x, 0, 3, 1, 1, 5, 0));
        Expect.sentence("COUNT, LENGTH, CHECKSUM anew, GREATEST TIME, too, if a record is left; others as they are");
        Expect.same("the first of them", 61, x.fetch(0, 0, 0));
        byte[] due = Model.batchBytes(1, 0, 41, 41, 3, 0, 1, 0, new byte[0]);
        Expect.same("its bytes", Arrays.toString(due), Arrays.toString(Send.fetched(x, 61)));
        Expect.same("no record of such a time", 6, x.find(0, 0));
        greatestTimeLeft();
        Expect.sentence("If no record and no batch goes, nothing is written");
        int writes = x.writes();
        Expect.same("again", 0, x.compact(0));
        Expect.same("nothing written", writes, x.writes());
        Send.batch(x, 0, 3, 6, 1, 9, 0);
        Expect.same("four of 61 and one of 371, one of 1000, the open one", 3, x.log(0, 2));
        writes = x.writes();
        Expect.same("no record goes, but a batch that is not known now", 0, x.compact(0));
        Expect.same("two blocks and the head", 3, x.writes() - writes);
        Expect.same("the first is another", 2, firstBase(x));
        Expect.same("audit", 0, x.audit());
    }

    private static void greatestTimeLeft() {
        BatchBroker x = new BatchBroker(1, 1, 64);
        int[] later = {4, 9, 7, 2};
        for (int i = 0; i < 4; i++) {
            x.record(1, i, 1, 0, 0, later[i]);
        }
        x.seal(3, 0, 0, 100);
        x.produce(0);
        Send.exact(x, 0, 1000);
        put(x, 0, 1, 1, 0);
        Expect.same("the latest goes", 1, x.compact(0));
        byte[] records = Send.join(Model.recordBytes(4, 0, new byte[] {0}, new byte[0]),
                Model.recordBytes(7, 2, new byte[] {2}, new byte[0]), Model.recordBytes(2, 3, new byte[] {3}, new byte[0]));
        byte[] due = Model.batchBytes(0, 3, 100, 107, 3, 0, 0, 3, records);
        Expect.same("its bytes", due.length, x.fetch(0, 0, 0));
        Expect.same("its bytes", Arrays.toString(due), Arrays.toString(Send.fetched(x, due.length)));
    }

    private static int firstBase(BatchBroker x) {
        x.fetch(0, x.log(0, 0), 0);
        return x.byteAt(7);
    }

    private static void compactRoom() {
        Expect.sentence("each into the same one as that before it if there is room, else a new one");
        // of 511 bytes 502 are left: with 522 more they fill a block, with 523 they do not
        for (int more = 0; more <= 1; more++) {
            BatchBroker x = new BatchBroker(1, 1, 32);
            x.record(1, 0, NONE, 0, 300, 0);
            x.record(1, 0, NONE, 0, 123, 0);
            x.record(1, 1, 1, 0, 1, 0);
            Expect.same("bytes", 511, x.seal(NONE, NONE, NONE, 0));
            x.produce(0);
            Send.exact(x, 0, 1024 - 502 + more);
            Send.exact(x, 0, 1000);
            put(x, 0, 1, 1, 0);
            Expect.same("four segments", 4, x.log(0, 2));
            Expect.same("one goes", 1, x.compact(0));
            Expect.same("segments", 3 + more, x.log(0, 2));
        }
        Expect.sentence("compaction: FULL, changing nothing: if there are none");
        int[][] cases = {{14, 14}, {15, FULL}};
        for (int[] c : cases) {
            BatchBroker x = new BatchBroker(1, 1, 32);
            for (int i = 0; i < c[0]; i++) {
                x.record(1, 1, 1, 0, 0, 0);
                x.record(3, 0, NONE, 0, 250, 0);
                x.seal(NONE, NONE, NONE, 0);
                x.produce(0);
            }
            put(x, 0, 1, 300, 0);
            Expect.same("an open segment", c[0] + 1, x.log(0, 2));
            x.crash(c[1] == FULL ? 1 : NONE);
            String before = Seen.all(x);
            Expect.same("closed segments " + c[0] + " of 28 blocks", c[1], x.compact(0));
            if (c[1] == FULL) {
                Expect.same("nothing is changed", before, Seen.all(x));
                Expect.same("nothing behind recovery", 16, x.recover());
                Expect.same("all records", 61, x.log(0, 4));
            }
        }
        Expect.sentence("FULL: if nothing stays no new segment is needed");
        BatchBroker y = new BatchBroker(1, 1, 32);
        for (int i = 0; i < 29; i++) {
            y.record(3, 5, 1, 0, 250, 0);
            y.seal(NONE, NONE, NONE, 0);
            y.produce(0);
        }
        Expect.same("no block is free", 0, y.free());
        int writes = y.writes();
        Expect.same("all that is closed goes", 84, y.compact(0));
        Expect.same("the head", 1, y.writes() - writes);
        Expect.same("28 blocks are free", 28, y.free());
    }

    private static void compactCut() {
        Expect.sentence("The blocks in which bytes lie are written, segment by segment, then the head: then the new ones "
                + "are there, and the old closed ones are not");
        for (int n = 1; n <= 8; n++) {
            BatchBroker x = new BatchBroker(1, 3, 64);
            for (int i = 0; i < 2; i++) {
                x.record(1, 1, 1, 0, 100, 0);
                x.record(9, 0, NONE, 0, 300, 0);
                Expect.same("nearly three blocks", 2952, x.seal(NONE, NONE, NONE, 0));
                x.produce(0);
            }
            put(x, 0, 1, 300, 0);
            // two closed segments, of each batch 2842 bytes will be left: six blocks and the head
            Expect.same("three segments", 3, x.log(0, 2));
            int free = x.free();
            x.crash(n);
            Expect.same("cut at " + n, n < 8 ? CUT : 2, x.compact(0));
            Expect.same("down", n < 8 ? 1 : 0, x.isDown() ? 1 : 0);
            Expect.same("batches", 3, x.recover());
            Expect.same("records", n < 7 ? 21 : 19, x.log(0, 4));
            Expect.same("free", free, x.free());
            Expect.same("audit", 0, x.audit());
            Expect.same("again", n < 7 ? 2 : 0, x.compact(0));
        }
    }

    public static void main(String[] args) {
        logNumbers();
        producerNumbers();
        roomInSegments();
        blocksWritten();
        fullDisk();
        largeBatches();
        orderOfAnswers();
        latestFive();
        sequences();
        forgotten();
        whatOfLog();
        fetchEdges();
        fetchCompacted();
        takenTexts();
        findEdges();
        retainEdges();
        compactSingles();
        compactKeys();
        compactTombs();
        compactKnown();
        compactRoom();
        compactCut();
        Expect.end("LogEdgeTest");
    }
}
