import java.util.Arrays;

/** Promises 8 to 17: producers and logs. */
public final class LogTest {
    private static final int NONE = BatchBroker.NONE;
    private static final int FULL = BatchBroker.FULL;
    private static final int CUT = BatchBroker.CUT;
    private static final int FENCED = BatchBroker.FENCED;
    private static final int GAP = BatchBroker.GAP;
    private static final int OUTSIDE = BatchBroker.OUTSIDE;

    private static void promise8Producer() {
        BatchBroker x = new BatchBroker(1, 1, 32);
        for (int i = 0; i < 100; i++) {
            Expect.same("number", i, x.producer());
        }
        Expect.same("a block for a hundred", 1, x.writes());
        Expect.same("the next hundred", 100, x.producer());
        Expect.same("one block more", 2, x.writes());
        x.crash(1);
        Expect.same("reserved already", 101, x.producer());
        Expect.same("it is still on", 0, x.isDown() ? 1 : 0);
        x.recover();
        Expect.same("the first not reserved", 200, x.producer());
        x.recover();
        x.crash(1);
        Expect.same("cut", CUT, x.producer());
        Expect.state("down", x::producer);
        x.recover();
        Expect.same("block 0 was written all the same", 400, x.producer());
        x.crash(0);
        Expect.state("down again", x::producer);
        x.recover();
        Expect.same("reserved behind a crash", 500, x.producer());
        Expect.same("and written", 6, x.writes());
    }

    private static void promise9Produce() {
        wrongProduce();
        largeBatches();
        sentAgain();
        epochsAndGaps();
        sequenceWraps();
        blocksWritten();
        fullDisk();
        sixtySegments();
        cutProduce();
    }

    private static void wrongProduce() {
        BatchBroker x = new BatchBroker(2, 1, 32);
        x.record(1, 1, 1, 1, 1, 0);
        x.seal(-1, -1, -1, 0);
        Expect.argument("log -1", () -> x.produce(-1));
        Expect.argument("the own log", () -> x.produce(2));
        Expect.argument("log 3", () -> x.produce(3));
        Expect.same("the tape stays", 0, x.fault(0));
        x.crash(0);
        Expect.argument("argument before state", () -> x.produce(2));
        Expect.state("down", () -> x.produce(1));
        Expect.same("the tape stays again", 0, x.fault(0));
        x.recover();
        Expect.same("produced", 0, x.produce(1));
        Expect.same("the tape is empty", 0, x.trim(0));
        Expect.same("an empty tape", BatchBroker.FAULT, x.produce(1));
        x.feed(1, 2, 3, 4, 5);
        Expect.same("a fault", BatchBroker.FAULT, x.produce(1));
        Expect.same("the tape is empty again", 0, x.trim(0));
        Expect.same("it came once", 1, x.log(1, 4));
        Expect.same("nothing in log 0", 0, x.log(0, 4));
        Expect.same("data and head", 2, x.writes());
    }

    private static void largeBatches() {
        BatchBroker x = new BatchBroker(1, 1, 32);
        Expect.same("1025 bytes", BatchBroker.LARGE, Send.block(x, 0, 1));
        Expect.same("the tape is empty", 0, x.trim(0));
        Expect.same("1024 bytes", 0, Send.block(x, 0, 0));
        Expect.same("nothing else", 1024, x.log(0, 5));
        Send.batch(x, 0, 3, 9, 0, 1, 0, 0);
        x.record(4, 0, -1, 0, 300, 0);
        x.seal(3, 0, 0, 0);
        Expect.same("LARGE is ahead of FENCED", BatchBroker.LARGE, x.produce(0));
        BatchBroker y = new BatchBroker(1, 2, 32);
        Expect.same("1025 bytes in two blocks", 0, Send.block(y, 0, 1));
        y.record(6, 0, -1, 0, 300, 0);
        y.record(1, 0, -1, 0, 125, 0);
        Expect.same("2049 bytes", 2049, y.seal(-1, -1, -1, 0));
        Expect.same("are too large", BatchBroker.LARGE, y.produce(0));
    }

    private static void sentAgain() {
        BatchBroker x = new BatchBroker(2, 1, 64);
        int[] sequences = {10, 12, 14, 16, 18, 20, 22};
        for (int i = 0; i < sequences.length; i++) {
            Expect.same("batch " + i, 2 * i, Send.batch(x, 0, 4, sequences[i], 2, 0, 0));
        }
        int writes = x.writes();
        x.crash(1);
        for (int i = 6; i >= 2; i--) {
            Expect.same("again " + i, 2 * i, Send.batch(x, 0, 4, sequences[i], 2, 50, 77));
        }
        Expect.same("the sixth is not known", GAP, Send.batch(x, 0, 4, sequences[1], 2, 0, 0));
        Expect.same("with another LAST", GAP, Send.batch(x, 0, 4, 18, 3, 0, 0));
        Expect.same("nothing written", writes, x.writes());
        Expect.same("nothing came", 14, x.log(0, 4));
        x.crash(NONE);
        Expect.same("another log knows nothing", 0, Send.batch(x, 1, 4, 14, 2, 0, 0));
        Expect.same("another producer is not known", 14, Send.batch(x, 0, 5, 14, 2, 0, 0));
        Expect.same("without producer", 16, Send.batch(x, 0, -1, -1, 2, 0, 0));
        Expect.same("without producer again", 18, Send.batch(x, 0, -1, -1, 2, 0, 0));
        Expect.same("one whose number was never given", 20, Send.batch(x, 0, 1L << 50, 7, 1, 0, 0));
    }

    private static void epochsAndGaps() {
        BatchBroker x = new BatchBroker(1, 1, 64);
        Expect.same("any epoch and sequence", 0, Send.batch(x, 0, 1, 5, 33, 2, 0, 0));
        Expect.same("gap", GAP, Send.batch(x, 0, 1, 5, 36, 1, 0, 0));
        Expect.same("too low", GAP, Send.batch(x, 0, 1, 5, 34, 1, 0, 0));
        Expect.same("due", 2, Send.batch(x, 0, 1, 5, 35, 1, 0, 0));
        Expect.same("a greater epoch begins with 0", GAP, Send.batch(x, 0, 1, 7, 36, 1, 0, 0));
        Expect.same("a greater epoch", 3, Send.batch(x, 0, 1, 7, 0, 4, 0, 0));
        Expect.same("fenced", FENCED, Send.batch(x, 0, 1, 6, 0, 1, 0, 0));
        Expect.same("fenced, though it is known", FENCED, Send.batch(x, 0, 1, 5, 35, 1, 0, 0));
        Expect.same("fenced, though it was due", FENCED, Send.batch(x, 0, 1, 5, 36, 1, 0, 0));
        Expect.same("with an epoch that is known, and its sequence", 3, Send.batch(x, 0, 1, 7, 0, 4, 0, 0));
        Expect.same("0 is no beginning in the same epoch", GAP, Send.batch(x, 0, 1, 7, 0, 3, 0, 0));
        Expect.same("goes on", 7, Send.batch(x, 0, 1, 7, 4, 1, 0, 0));
        Expect.same("others are not fenced", 8, Send.batch(x, 0, 2, 0, 0, 1, 0, 0));
        Expect.same("all in all", 9, x.log(0, 1));
        Expect.same("and written", 10, x.writes());
    }

    private static void sequenceWraps() {
        BatchBroker x = new BatchBroker(1, 1, 32);
        Expect.same("the greatest", 0, Send.batch(x, 0, 1, Integer.MAX_VALUE, 1, 0, 0));
        Expect.same("next is 0", 0, x.known(0, 1, 2));
        Expect.same("1 is not", GAP, Send.batch(x, 0, 1, 1, 1, 0, 0));
        Expect.same("0 comes", 1, Send.batch(x, 0, 1, 0, 1, 0, 0));
        Expect.same("over the end", 2, Send.batch(x, 0, 2, Integer.MAX_VALUE - 1, 5, 0, 0));
        Expect.same("next is 3", 3, x.known(0, 2, 2));
        Expect.same("3 comes", 7, Send.batch(x, 0, 2, 3, 1, 0, 0));
    }

    private static void blocksWritten() {
        BatchBroker x = new BatchBroker(1, 3, 64);
        int[][] steps = {{0, 2, 1024}, {1, 3, 2049}};
        for (int[] step : steps) {
            int before = x.writes();
            Send.block(x, 0, step[0]);
            Expect.same("blocks", step[1], x.writes() - before);
            Expect.same("bytes", step[2], x.log(0, 5));
        }
        int before = x.writes();
        Send.one(x, 0, 0, 1, 0);
        Expect.same("within one block", 2, x.writes() - before);
        Expect.same("one segment", 1, x.log(0, 2));
        before = x.writes();
        Send.block(x, 0, 0);
        Expect.same("no room in the open one: 1024 bytes at 0", 2, x.writes() - before);
        Expect.same("two segments", 2, x.log(0, 2));
        Expect.same("six blocks", 55, x.free());
    }

    private static void fullDisk() {
        BatchBroker x = new BatchBroker(1, 4, 32);
        for (int i = 0; i < 7; i++) {
            Expect.same("segment " + i, 16 * i, fillSegment(x));
        }
        Expect.same("one block is left", 1, x.free());
        int writes = x.writes();
        x.crash(1);
        Expect.same("full", FULL, Send.one(x, 0, 0, 1, 0));
        Expect.same("the tape is empty", 0, x.trim(0));
        Expect.same("nothing written", writes, x.writes());
        Expect.same("END stays", 112, x.log(0, 1));
        Expect.same("segments stay", 7, x.log(0, 2));
        Expect.same("it is on", 0, x.isDown() ? 1 : 0);
        x.crash(NONE);
        Expect.same("six go", 6, x.retain(0, 0));
        Expect.same("room again", 112, Send.one(x, 0, 0, 1, 0));
        Expect.same("audit", 0, x.audit());
    }

    /** 4096 bytes in sixteen records. */
    private static long fillSegment(BatchBroker x) {
        long base = Send.block(x, 0, 0);
        for (int i = 0; i < 3; i++) {
            Send.block(x, 0, 0);
        }
        return base;
    }

    private static void sixtySegments() {
        BatchBroker x = new BatchBroker(1, 1, 256);
        for (int i = 0; i < 60; i++) {
            x.record(2, 0, 1, 0, 300, 0);
            x.seal(-1, -1, -1, 0);
            Expect.same("segment " + i, 2 * i, x.produce(0));
        }
        Expect.same("sixty", 60, x.log(0, 2));
        x.record(2, 0, 1, 0, 300, 0);
        x.seal(-1, -1, -1, 0);
        Expect.same("no sixty-first", FULL, x.produce(0));
        Expect.same("though there are blocks", 253 - 60, x.free());
        Expect.same("room in the open one", 120, Send.one(x, 0, 0, 1, 0));
        Expect.same("all of them behind recovery", 61, x.recover());
        Expect.same("sixty again", 60, x.log(0, 2));
        Expect.same("audit", 0, x.audit());
        Expect.same("one goes", 1, x.retain(0, 59 * 682));
        x.record(2, 0, 1, 0, 300, 0);
        x.seal(-1, -1, -1, 0);
        Expect.same("one comes", 121, x.produce(0));
    }

    private static void cutProduce() {
        for (int n = 1; n <= 4; n++) {
            BatchBroker x = new BatchBroker(1, 3, 32);
            Send.one(x, 0, 1, 1, 0);
            x.record(6, 0, -1, 0, 300, 0);
            x.seal(9, 0, 0, 0);
            x.crash(n);
            Expect.same("three blocks at most", n == 4 ? 1 : CUT, x.produce(0));
            Expect.same("the tape is empty", 0, x.trim(0));
            Expect.same("down", n == 4 ? 0 : 1, x.isDown() ? 1 : 0);
            Expect.same("writes", 2 + Math.min(n, 3), x.writes());
            Expect.same("there just if its head was written", n < 3 ? 1 : 2, x.recover());
            Expect.same("END", n < 3 ? 1 : 7, x.log(0, 1));
            Expect.same("known", n < 3 ? 0 : 1, x.known(0, 9, 0));
            x.record(6, 0, -1, 0, 300, 0);
            x.seal(9, 0, 0, 0);
            Expect.same("sent again it is there once", 1, x.produce(0));
            Expect.same("once", 7, x.log(0, 4));
            Expect.same("audit", 0, x.audit());
        }
    }

    private static void promise10Known() {
        BatchBroker x = new BatchBroker(2, 1, 64);
        Expect.same("none", 0, x.known(0, 7, 0));
        for (int what = 1; what <= 3; what++) {
            Expect.same("none", NONE, x.known(0, 7, what));
            Expect.same("the own log", NONE, x.known(2, 7, what));
        }
        Expect.same("the own log", 0, x.known(2, 7, 0));
        for (int i = 0; i < 7; i++) {
            Send.batch(x, 0, 7, 2, 3 * i, 3, 0, 0);
            Expect.same("how many", Math.min(5, i + 1), x.known(0, 7, 0));
            Expect.same("EPOCH", 2, x.known(0, 7, 1));
            Expect.same("SEQUENCE", 3 * i + 3, x.known(0, 7, 2));
            Expect.same("BASE", 3 * i, x.known(0, 7, 3));
        }
        Send.batch(x, 0, 8, 0, 40, 1, 0, 0);
        Send.batch(x, 0, 7, 3, 0, 2, 0, 0);
        Expect.same("of another", 1, x.known(0, 8, 0));
        Expect.same("of another", 41, x.known(0, 8, 2));
        Expect.same("the new EPOCH", 3, x.known(0, 7, 1));
        Expect.same("its SEQUENCE", 2, x.known(0, 7, 2));
        Expect.same("its BASE", 22, x.known(0, 7, 3));
        Expect.same("in another log", 0, x.known(1, 7, 0));
        Expect.same("a great number", 0, x.known(0, Long.MAX_VALUE, 0));
        Expect.argument("log -1", () -> x.known(-1, 7, 0));
        Expect.argument("log 3", () -> x.known(3, 7, 0));
        Expect.argument("producer -1", () -> x.known(0, -1, 0));
        Expect.argument("producer least", () -> x.known(0, Long.MIN_VALUE, 0));
        Expect.argument("what -1", () -> x.known(0, 7, -1));
        Expect.argument("what 4", () -> x.known(0, 7, 4));
        x.crash(0);
        Expect.argument("argument before state", () -> x.known(0, 7, 4));
        Expect.state("down", () -> x.known(0, 7, 0));
        x.recover();
        Expect.same("behind recovery", 5, x.known(0, 7, 0));
        Expect.same("behind recovery", 2, x.known(0, 7, 2));
        knownAndRetention();
    }

    private static void knownAndRetention() {
        BatchBroker x = new BatchBroker(1, 1, 64);
        Send.batch(x, 0, 1, 0, 2, 0, 0);
        Send.block(x, 0, 0);
        Send.batch(x, 0, 2, 0, 2, 0, 0);
        Expect.same("two segments go", 2, x.retain(0, 0));
        Expect.same("what went is not known", 0, x.known(0, 1, 0));
        Expect.same("what is there is", 1, x.known(0, 2, 0));
        Expect.same("so it comes again", 8, Send.batch(x, 0, 1, 0, 2, 0, 0));
        Expect.same("and is known", 8, x.known(0, 1, 3));
    }

    private static void promise11Log() {
        BatchBroker x = new BatchBroker(2, 1, 64);
        Send.batch(x, 1, -1, -1, 3, 0, 0);
        Send.batch(x, 1, -1, -1, 2, 0, 0);
        Send.block(x, 1, 0);
        long[] due = {0, 9, 2, 3, 9, 109 + 93 + 1024};
        for (int what = 0; what <= 5; what++) {
            Expect.same("log, what " + what, due[what], x.log(1, what));
            Expect.same("another log", 0, x.log(0, what));
        }
        x.retain(1, 0);
        long[] then = {5, 9, 1, 1, 4, 1024};
        for (int what = 0; what <= 5; what++) {
            Expect.same("behind retention, what " + what, then[what], x.log(1, what));
        }
        x.join(0, 0);
        Expect.same("the own log", 1, x.log(2, 4));
        Expect.same("the own log", 78, x.log(2, 5));
        Expect.argument("log -1", () -> x.log(-1, 0));
        Expect.argument("log 3", () -> x.log(3, 0));
        Expect.argument("what -1", () -> x.log(0, -1));
        Expect.argument("what 6", () -> x.log(0, 6));
        x.crash(0);
        Expect.argument("argument before state", () -> x.log(0, 6));
        Expect.state("down", () -> x.log(0, 0));
    }

    private static void promise12Fetch() {
        BatchBroker x = new BatchBroker(2, 2, 64);
        Expect.same("of an empty log", 0, x.fetch(0, 0, 100));
        Expect.same("behind an empty log", OUTSIDE, x.fetch(0, 1, 100));
        Send.batch(x, 0, -1, -1, 3, 0, 0);
        Send.batch(x, 0, -1, -1, 2, 0, 10);
        Send.batch(x, 0, -1, -1, 1, 0, 20);
        Send.block(x, 0, 0);
        int a = 109;
        int b = 93;
        int c = 77;
        long[][] due = {{0, 0, a}, {0, a - 1, a}, {0, a, a}, {0, a + b - 1, a}, {0, a + b, a + b}, {2, a + b, a + b},
            {3, 500, b + c}, {4, 500, b + c}, {4, b + c + 1023, b + c}, {4, b + c + 1024, b + c + 1024},
            {5, 0, c}, {6, 1, 1024}, {9, 1, 1024}, {10, 1, 0}, {10, 32768, 0}, {0, 32768, a + b + c + 1024}};
        for (long[] d : due) {
            Expect.same("fetch " + Arrays.toString(d), d[2], x.fetch(0, d[0], (int) d[1]));
        }
        x.fetch(0, 3, 500);
        Expect.same("below START", OUTSIDE, x.fetch(0, -1, 500));
        Expect.same("behind END", OUTSIDE, x.fetch(0, 11, 500));
        Expect.same("far behind END", OUTSIDE, x.fetch(0, Long.MAX_VALUE, 500));
        Expect.same("far below START", OUTSIDE, x.fetch(0, Long.MIN_VALUE, 500));
        Expect.same("what was fetched stays", 3, x.taken(0, 0));
        Expect.argument("most -1", () -> x.fetch(0, 0, -1));
        Expect.argument("most 32769", () -> x.fetch(0, 0, 32769));
        Expect.argument("log 3", () -> x.fetch(3, 0, 0));
        Expect.argument("log -1", () -> x.fetch(-1, 0, 0));
        Expect.same("what was fetched stays", 3, x.taken(0, 0));
        Expect.same("the own log", 0, x.fetch(2, 0, 0));
        Expect.argument("nothing is fetched then", () -> x.taken(0, 0));
        Expect.argument("nothing is fetched then", () -> x.byteAt(0));
        x.retain(0, 0);
        Expect.same("START is there", 0, x.log(0, 0));
        x.crash(0);
        Expect.argument("argument before state", () -> x.fetch(0, 0, -1));
        Expect.state("down", () -> x.fetch(0, 0, 0));
        fetchAcrossSegments();
        fetchCompacted();
    }

    private static void fetchAcrossSegments() {
        BatchBroker x = new BatchBroker(1, 1, 64);
        for (int i = 0; i < 34; i++) {
            Send.block(x, 0, 0);
        }
        Expect.same("32 segments", 32768, x.fetch(0, 5, 32768));
        Expect.same("of the first record", 4, x.taken(0, 0));
        Expect.same("of the last record", 4 + 32 * 4 - 1, x.taken(127, 0));
        Expect.argument("no more", () -> x.taken(128, 0));
        Expect.same("31 segments", 31 * 1024, x.fetch(0, 5, 32767));
        Expect.same("the last byte", 0, x.byteAt(31 * 1024 - 1));
        Expect.argument("no more bytes", () -> x.byteAt(31 * 1024));
        Expect.same("33 go", 33, x.retain(0, 1));
        Expect.same("START", 132, x.log(0, 0));
        Expect.same("below START", OUTSIDE, x.fetch(0, 131, 32768));
        Expect.same("START", 1024, x.fetch(0, 132, 32768));
        Expect.same("END", 0, x.fetch(0, 136, 32768));
    }

    private static void fetchCompacted() {
        BatchBroker x = new BatchBroker(1, 1, 64);
        Send.batch(x, 0, -1, -1, 4, 0, 0);
        Send.batch(x, 0, 5, 0, 4, 10, 0);
        Send.batch(x, 0, -1, -1, 1, 20, 0);
        Send.block(x, 0, 0);
        // keys 2 and 3 of the first batch go, all of the second, which stays as known, without records
        Send.batch(x, 0, -1, -1, 2, 2, 50);
        Send.batch(x, 0, -1, -1, 4, 10, 50);
        Expect.same("six go", 6, x.compact(0));
        int left = 93 + 61 + 77;
        Expect.same("bytes", left + 1024, x.fetch(0, 0, left + 1024));
        Expect.same("at the last that is left", left, x.fetch(0, 1, left));
        Expect.same("behind it", 61 + 77, x.fetch(0, 2, left));
        Expect.same("at the end of what it had", 61 + 77, x.fetch(0, 3, left));
        Expect.same("the one without records", 61 + 77, x.fetch(0, 4, left));
        Expect.same("alone", 61, x.fetch(0, 4, 61));
        Expect.argument("it has no record", () -> x.taken(0, 0));
        Expect.same("at its last offset", 61, x.fetch(0, 7, 137));
        Expect.same("behind it", 77, x.fetch(0, 8, 137));
        Expect.same("records of several", 61 + 77, x.fetch(0, 7, 138));
        Expect.same("the first is of the second batch", 8, x.taken(0, 0));
        Expect.argument("no second one", () -> x.taken(1, 0));
    }

    private static void promise13ByteAt() {
        BatchBroker x = new BatchBroker(1, 1, 64);
        Expect.argument("nothing", () -> x.byteAt(0));
        Send.batch(x, 0, -1, -1, 2, 3, 40);
        x.record(2, 250, 1, -2, 8, 6);
        x.seal(77, 300, 70000, 50);
        byte[] due = Send.tape(x);
        x.produce(0);
        due[7] = 2;
        int size = x.fetch(0, 2, 0);
        Expect.same("bytes", due.length, size);
        byte[] got = Send.fetched(x, size);
        for (int i = 0; i < size; i++) {
            Expect.same("byte " + i, due[i], got[i]);
        }
        Expect.same("never below 0", 255, x.byteAt(size - 2));
        Expect.argument("byte -1", () -> x.byteAt(-1));
        Expect.argument("the byte behind", () -> x.byteAt(size));
        Expect.argument("least", () -> x.byteAt(Integer.MIN_VALUE));
        x.crash(0);
        Expect.same("when down", 2, x.byteAt(16));
        x.recover();
        Expect.same("behind recovery", 2, x.byteAt(7));
        Send.block(x, 0, 0);
        x.retain(0, 0);
        Send.block(x, 0, 0);
        Expect.same("when other things are there", 255, x.byteAt(size - 2));
    }

    private static void promise14Taken() {
        BatchBroker x = new BatchBroker(1, 1, 64);
        Expect.argument("nothing", () -> x.taken(0, 0));
        x.record(1, 0, -1, 0, -1, 3);
        x.record(1, 0, 0, 0, 0, 9);
        x.record(1, 0xfedc, 2, 0x0102030405060788L, 7, 2);
        x.seal(-1, -1, -1, 100);
        x.produce(0);
        x.record(1, -2, 8, 0x0102030405060788L, 8, 0);
        x.record(1, 255, 1, 0x0102030405060788L, 300, 0);
        x.seal(-1, -1, -1, 7);
        x.produce(0);
        long[][] due = {{0, 103, NONE, 0, NONE, 0}, {1, 109, 0, 0, 0, 0},
            {2, 102, 2, 0xfedc, 7, 0x88070605040302L}, {3, 7, 8, -2, 8, 0x8807060504030201L},
            {4, 7, 1, 255, 300, 0x8807060504030201L}};
        x.fetch(0, 0, 32768);
        for (int k = 0; k < due.length; k++) {
            for (int what = 0; what <= 5; what++) {
                Expect.same("taken " + k + ", " + what, due[k][what], x.taken(k, what));
            }
        }
        Expect.argument("record 5", () -> x.taken(5, 0));
        Expect.argument("record -1", () -> x.taken(-1, 0));
        Expect.argument("most", () -> x.taken(Integer.MAX_VALUE, 0));
        Expect.argument("least", () -> x.taken(Integer.MIN_VALUE, 0));
        Expect.argument("what -1", () -> x.taken(0, -1));
        Expect.argument("what 6", () -> x.taken(0, 6));
        x.crash(0);
        Expect.same("when down", 109, x.taken(1, 1));
        x.recover();
        x.fetch(0, 3, 0);
        Expect.same("of the second batch", 3, x.taken(0, 0));
        // keys longer than eight bytes, and times before FIRST TIME, come by feed()
        byte[] key = {-1, 2, 3, 4, 5, 6, 7, 8, 9, 10};
        byte[] records = Model.recordBytes(-40, 0, key, new byte[] {-128, 1});
        Send.feed(x, Model.batchBytes(0, 0, 50, 10, -1, -1, -1, 1, records));
        Expect.same("fed", 5, x.produce(0));
        x.fetch(0, 5, 0);
        long[] fed = {5, 10, 10, 0xff02030405060708L, 2, 0x8001};
        for (int what = 0; what <= 5; what++) {
            Expect.same("fed, " + what, fed[what], x.taken(0, what));
        }
    }

    private static void promise15Find() {
        BatchBroker x = new BatchBroker(2, 1, 64);
        Expect.same("nothing", NONE, x.find(0, Long.MIN_VALUE));
        x.record(1, 0, 1, 0, 1, 50);
        x.record(1, 1, 1, 0, 1, 10);
        x.record(1, 2, 1, 0, 1, 90);
        x.seal(-1, -1, -1, 100);
        x.produce(0);
        Send.batch(x, 0, -1, -1, 2, 3, 20);
        Send.batch(x, 0, -1, -1, 2, 5, 500);
        long[][] due = {{Long.MIN_VALUE, 0}, {-1, 0}, {0, 0}, {150, 0}, {151, 2}, {190, 2}, {191, 5}, {500, 5},
            {501, 6}, {502, NONE}, {Long.MAX_VALUE, NONE}};
        for (long[] d : due) {
            Expect.same("find " + d[0], d[1], x.find(0, d[0]));
        }
        Expect.same("another log", NONE, x.find(1, 0));
        Expect.same("the own log", NONE, x.find(2, 0));
        Send.block(x, 0, 0);
        Send.batch(x, 0, -1, -1, 3, 0, 1000);
        x.compact(0);
        Expect.same("behind compaction", 3, x.find(0, 0));
        Expect.same("not what went", 5, x.find(0, 150));
        x.retain(0, 0);
        Expect.same("behind retention", x.log(0, 0), x.find(0, 0));
        Expect.argument("log -1", () -> x.find(-1, 0));
        Expect.argument("log 3", () -> x.find(3, 0));
        x.crash(0);
        Expect.argument("argument before state", () -> x.find(3, 0));
        Expect.state("down", () -> x.find(0, 0));
    }

    private static BatchBroker fiveSegments() {
        BatchBroker x = new BatchBroker(2, 1, 64);
        for (int i = 0; i < 4; i++) {
            Send.block(x, 0, -i);
        }
        Send.one(x, 0, 1, 4, 0);
        Send.one(x, 0, 1, 4, 0);
        Expect.same("five segments", 5, x.log(0, 2));
        return x;
    }

    private static void promise16Retain() {
        // 1024, 1023, 1022, 1021 and two of 73 bytes
        int[][] due = {{Integer.MAX_VALUE, 0}, {3213, 0}, {3212, 1}, {2190, 1}, {2189, 2}, {1168, 2}, {1167, 3},
            {147, 3}, {146, 4}, {1, 4}, {0, 4}};
        long[] starts = {0, 4, 8, 12, 16};
        for (int[] d : due) {
            BatchBroker x = fiveSegments();
            int writes = x.writes();
            int free = x.free();
            Expect.same("retain " + d[0], d[1], x.retain(0, d[0]));
            Expect.same("START", starts[d[1]], x.log(0, 0));
            Expect.same("END", 18, x.log(0, 1));
            Expect.same("segments", 5 - d[1], x.log(0, 2));
            Expect.same("batches", 6 - d[1], x.log(0, 3));
            Expect.same("writes", d[1] == 0 ? 0 : 1, x.writes() - writes);
            Expect.same("free", free + d[1], x.free());
            Expect.same("audit", 0, x.audit());
            Expect.same("again", 0, x.retain(0, d[0]));
            Expect.same("behind recovery", 6 - d[1], x.recover());
            Expect.same("START", starts[d[1]], x.log(0, 0));
            Expect.same("fetch", x.log(0, 5), x.fetch(0, starts[d[1]], 32768));
        }
        BatchBroker x = fiveSegments();
        x.crash(1);
        Expect.same("nothing goes, nothing is cut", 0, x.retain(0, 4000));
        Expect.same("an empty log", 0, x.retain(1, 0));
        Expect.argument("bytes -1", () -> x.retain(0, -1));
        Expect.argument("the own log", () -> x.retain(2, 0));
        Expect.argument("log 3", () -> x.retain(3, 0));
        Expect.argument("log -1", () -> x.retain(-1, 0));
        Expect.same("cut", CUT, x.retain(0, 0));
        Expect.argument("argument before state", () -> x.retain(0, -1));
        Expect.state("down", () -> x.retain(0, 0));
        Expect.same("its head was written", 2, x.recover());
        Expect.same("START", 16, x.log(0, 0));
        Send.batch(x, 1, 3, 0, 1, 0, 0);
        Expect.same("one segment stays", 0, x.retain(1, 0));
    }

    public static void main(String[] args) {
        promise8Producer();
        promise9Produce();
        promise10Known();
        promise11Log();
        promise12Fetch();
        promise13ByteAt();
        promise14Taken();
        promise15Find();
        promise16Retain();
        Expect.end("LogTest");
    }
}
