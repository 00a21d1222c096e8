/** Promise 17: compaction. */
public final class CompactTest {
    private static final int NONE = BatchBroker.NONE;
    private static final int FULL = BatchBroker.FULL;
    private static final int CUT = BatchBroker.CUT;

    /** A record of its own batch, without producer; valueBytes -1 for none. */
    private static void put(BatchBroker x, long key, int keyBytes, int valueBytes, long time) {
        x.record(1, key, keyBytes, 7, valueBytes, 0);
        x.seal(-1, -1, -1, time);
        x.produce(0);
    }

    private static byte[] bytes(int... numbers) {
        byte[] row = new byte[numbers.length];
        for (int i = 0; i < row.length; i++) {
            row[i] = (byte) numbers[i];
        }
        return row;
    }

    private static void offsets(String what, BatchBroker x, long... due) {
        x.fetch(0, x.log(0, 0), 32768);
        for (int k = 0; k < due.length; k++) {
            Expect.same(what + ", record " + k, due[k], x.taken(k, 0));
        }
        Expect.argument(what + ", no more records", () -> x.taken(due.length, 0));
        Expect.same(what + ", records", due.length, x.log(0, 4));
        Expect.same(what + ", audit", 0, x.audit());
    }

    private static void nothingToDo() {
        BatchBroker x = new BatchBroker(2, 1, 64);
        Expect.same("an empty log", 0, x.compact(0));
        put(x, 1, 1, 1, 0);
        put(x, 1, 1, 1, 0);
        put(x, 1, 1, NONE, 0);
        x.ticks(200);
        int writes = x.writes();
        x.crash(1);
        Expect.same("the open segment is not compacted", 0, x.compact(0));
        Expect.same("the own log", 0, x.compact(2));
        Expect.same("nothing written", writes, x.writes());
        x.crash(NONE);
        put(x, 2, 1, 300, 0);
        put(x, 3, 1, 300, 0);
        put(x, 4, 1, 300, 0);
        Expect.same("two segments", 2, x.log(0, 2));
        Expect.same("two of the closed one go", 2, x.compact(0));
        writes = x.writes();
        x.crash(1);
        Expect.same("nothing goes", 0, x.compact(0));
        Expect.same("nothing written", writes, x.writes());
        Expect.argument("log -1", () -> x.compact(-1));
        Expect.argument("log 3", () -> x.compact(3));
        x.crash(0);
        Expect.argument("argument before state", () -> x.compact(3));
        Expect.state("down", () -> x.compact(0));
    }

    private static void keys() {
        BatchBroker x = new BatchBroker(1, 1, 64);
        put(x, 0, 0, 1, 0);
        put(x, 0, 1, 1, 0);
        put(x, 0, 2, 1, 0);
        put(x, 0, NONE, 1, 0);
        put(x, 0, NONE, NONE, 0);
        put(x, 0x0100, 2, 1, 0);
        put(x, 0x0001, 2, 1, 0);
        put(x, 0, 8, 1, 0);
        Send.block(x, 0, 0);
        put(x, 9, 1, 1, 0);
        Expect.same("keys of other bytes, or of more, are others", 0, x.compact(0));
        put(x, 0, 0, 1, 0);
        Expect.same("a key of no bytes", 1, x.compact(0));
        offsets("a key of no bytes", x, 1, 2, 3, 4, 5, 6, 7, 8, 9, 10, 11, 12, 13);
        put(x, 0, 1, NONE, 0);
        put(x, 0x0100, 2, 300, 0);
        put(x, 0, NONE, 1, 0);
        Expect.same("two more", 2, x.compact(0));
        offsets("those without a key stay", x, 2, 3, 4, 6, 7, 8, 9, 10, 11, 12, 13, 14, 15, 16);
        Expect.same("START stays", 0, x.log(0, 0));
        Expect.same("END stays", 17, x.log(0, 1));
    }

    private static void laterOnes() {
        BatchBroker x = new BatchBroker(1, 1, 64);
        x.record(1, 1, 1, 1, 1, 0);
        x.record(1, 2, 1, 1, 1, 0);
        x.record(1, 1, 1, 2, 1, 0);
        x.seal(-1, -1, -1, 10);
        x.produce(0);
        put(x, 3, 1, 1, 5);
        put(x, 3, 1, 1, 0);
        Send.block(x, 0, 0);
        put(x, 4, 1, 1, 0);
        Expect.same("one in its own batch, one in its segment", 2, x.compact(0));
        offsets("the later ones stay", x, 1, 2, 4, 5, 6, 7, 8, 9);
        put(x, 2, 1, NONE, 0);
        Send.block(x, 0, 0);
        Send.block(x, 0, 0);
        Expect.same("by one of a closed segment", 1, x.compact(0));
        offsets("the latest stays, without value, too", x, 2, 4, 5, 6, 7, 8, 9, 10, 11, 12, 13, 14, 15, 16, 17, 18);
        put(x, 1, 1, 1, 0);
        Expect.same("by one of the open segment", 1, x.compact(0));
    }

    private static void tombs() {
        BatchBroker x = new BatchBroker(1, 1, 64);
        put(x, 1, 1, 5, 0);
        put(x, 1, 1, NONE, 0);
        put(x, 2, 1, NONE, 1);
        put(x, 3, 1, 0, 0);
        put(x, 4, NONE, NONE, 0);
        x.record(2, 5, 1, 0, NONE, 2);
        x.seal(-1, -1, -1, 0);
        x.produce(0);
        Send.block(x, 0, 0);
        put(x, 7, 1, NONE, 0);
        Expect.same("the first, as there is a later one", 1, x.compact(0));
        for (int i = 1; i <= 4; i++) {
            x.ticks(200);
        }
        x.ticks(199);
        Expect.same("at 999", 0, x.compact(0));
        x.ticks(1);
        Expect.same("at 1000", 1, x.compact(0));
        offsets("at 1000", x, 2, 3, 4, 5, 6, 7, 8, 9, 10, 11);
        x.ticks(1);
        Expect.same("at 1001", 1, x.compact(0));
        x.ticks(1);
        Expect.same("at 1002, one of a batch", 1, x.compact(0));
        offsets("the open one stays, one without a key, one of no bytes", x, 3, 4, 6, 7, 8, 9, 10, 11);
        x.ticks(1);
        Expect.same("at 1003", 1, x.compact(0));
        Expect.same("START stays", 0, x.log(0, 0));
        BatchBroker y = new BatchBroker(1, 1, 64);
        for (int i = 0; i < 5; i++) {
            y.ticks(200);
        }
        put(y, 1, 1, 5, 0);
        put(y, 1, 1, NONE, 0);
        Send.block(y, 0, 0);
        Expect.same("both at once", 2, y.compact(0));
        Expect.same("the open segment is left", 1, y.log(0, 2));
        Expect.same("its batch is left", 1, y.log(0, 3));
        Expect.same("START stays", 0, y.log(0, 0));
        Expect.same("the first that is left", 1024, y.fetch(0, 0, 0));
        Expect.same("behind recovery", 1, y.recover());
        Expect.same("START stays behind recovery", 0, y.log(0, 0));
        Expect.same("END stays behind recovery", 6, y.log(0, 1));
        Expect.same("audit", 0, y.audit());
    }

    private static void knownStay() {
        BatchBroker x = new BatchBroker(1, 1, 64);
        for (int i = 0; i < 7; i++) {
            Send.batch(x, 0, 3, 2 * i, 2, 10, 0);
        }
        Send.batch(x, 0, 4, 0, 2, 10, 0);
        Send.batch(x, 0, -1, -1, 2, 10, 0);
        Send.block(x, 0, 0);
        Expect.same("all but the last two of them go", 16, x.compact(0));
        Expect.same("five of 3, one of 4, the last, the open one", 8, x.log(0, 3));
        Expect.same("known", 5, x.known(0, 3, 0));
        Expect.same("their BASE", 12, x.known(0, 3, 3));
        Expect.same("the next", 14, x.known(0, 3, 2));
        Expect.same("of 4", 1, x.known(0, 4, 0));
        Expect.same("sent again", 8, Send.batch(x, 0, 3, 8, 2, 10, 0));
        Expect.same("again without records", 0, x.compact(0));
        int writes = x.writes();
        Send.batch(x, 0, 3, 14, 2, 50, 0);
        Expect.same("one batch goes, no record", 0, x.compact(0));
        Expect.same("written: batch and head; two segments and head", 5, x.writes() - writes);
        Expect.same("and it went", 8, x.log(0, 3));
        Expect.same("five are known", 5, x.known(0, 3, 0));
        Expect.same("none twice", BatchBroker.GAP, Send.batch(x, 0, 3, 4, 2, 10, 0));
        Expect.same("the first of the five", 6, Send.batch(x, 0, 3, 6, 2, 10, 0));
        Expect.same("recovery", 8, x.recover());
        Expect.same("five are known", 5, x.known(0, 3, 0));
        Expect.same("audit", 0, x.audit());
        x.crash(1);
        Send.batch(x, 0, 3, 16, 2, 50, 0);
        Expect.same("cut before the head: not there", 8, x.recover());
    }

    private static BatchBroker twoBatches() {
        BatchBroker x = new BatchBroker(1, 1, 64);
        x.record(1, 1, 1, 0x55, 3, 9);
        x.record(1, 2, 1, 0x66, 2, 7);
        x.record(1, 3, 1, 0x77, 1, 100);
        x.record(1, 4, 1, 0x78, -1, 70);
        x.seal(6, 5, 90, 1000);
        x.produce(0);
        x.record(2, 3, 1, 0, 1, 4);
        x.seal(6, 5, 94, 3000);
        x.produce(0);
        Send.block(x, 0, 0);
        x.record(2, 3, 1, 0, 1, 0);
        x.record(1, 1, 1, 0, 1, 0);
        x.seal(-1, -1, -1, 10);
        x.produce(0);
        return x;
    }

    private static void whatIsLeft() {
        byte[] left = Model.recordBytes(7, 1, bytes(2), bytes(0x66, 0));
        byte[] first = Model.batchBytes(0, 3, 1000, 1007, 6, 5, 90, 1, left);
        byte[] second = Model.batchBytes(4, 1, 3000, 3005, 6, 5, 94, 0, new byte[0]);
        byte[] due = Send.join(first, second);
        BatchBroker x = twoBatches();
        Expect.same("five go", 5, x.compact(0));
        Expect.same("bytes", due.length, x.fetch(0, 0, due.length + 1));
        byte[] got = Send.fetched(x, due.length);
        for (int i = 0; i < due.length; i++) {
            Expect.same("byte " + i, due[i], got[i]);
        }
        x.recover();
        Expect.same("the same behind recovery", due.length, x.fetch(0, 0, due.length + 1));
        got = Send.fetched(x, due.length);
        for (int i = 0; i < due.length; i++) {
            Expect.same("byte " + i + " behind recovery", due[i], got[i]);
        }
        Expect.same("found", 1, x.find(0, 1001));
        Expect.same("not by the times of what went", NONE, x.find(0, 1008));
    }

    private static void greatestTimes() {
        BatchBroker x = new BatchBroker(1, 1, 64);
        x.record(1, 1, 1, 0, 1, 0);
        x.record(1, 2, 1, 0, 1, 9);
        x.seal(-1, -1, -1, 0);
        x.produce(0);
        byte[] early = Model.recordBytes(-40, 0, bytes(4), null);
        byte[] late = Model.recordBytes(0, 1, bytes(5), null);
        Send.feed(x, Model.batchBytes(0, 1, 50, 50, -1, -1, -1, 2, Send.join(early, late)));
        x.produce(0);
        Send.block(x, 0, 0);
        put(x, 2, 1, 1, 0);
        put(x, 5, 1, 1, 0);
        Expect.same("two go", 2, x.compact(0));
        int[] greatest = {0, 10};
        for (int i = 0; i < 2; i++) {
            x.fetch(0, 2 * i, 0);
            for (int k = 0; k < 8; k++) {
                Expect.same("greatest time of batch " + i + ", byte " + k, k < 7 ? 0 : greatest[i], x.byteAt(35 + k));
            }
            Expect.same("first time", i == 0 ? 0 : 50, x.byteAt(34));
            Expect.same("time", greatest[i], x.taken(0, 1));
        }
    }

    /** Keys 0 .. 3 in one-block segments of two batches each, as many as asked for; then an open one. */
    private static BatchBroker pairs(int segments, int blocks) {
        BatchBroker x = new BatchBroker(1, 1, blocks);
        for (int i = 0; i < segments; i++) {
            for (int k = 0; k < 2; k++) {
                x.record(1, 0, NONE, 0, 300, 0);
                x.record(1, i % 4, 1, 0, 100, 0);
                x.seal(-1, -1, -1, i);
                x.produce(0);
            }
        }
        put(x, 100, 1, 1, 0);
        return x;
    }

    private static void newSegments() {
        // a batch has 61 + 309 + 110 bytes; 370 without its second record
        BatchBroker x = pairs(6, 64);
        Expect.same("seven segments", 7, x.log(0, 2));
        Expect.same("bytes", 12 * 480 + 70, x.log(0, 5));
        int writes = x.writes();
        Expect.same("8 of 12", 8, x.compact(0));
        Expect.same("bytes", 12 * 480 + 70 - 8 * 110, x.log(0, 5));
        // two of 370 a segment, as the third has 480, and so on
        Expect.same("segments", 7, x.log(0, 2));
        Expect.same("six blocks and the head", 7, x.writes() - writes);
        Expect.same("free", 61 - 7, x.free());
        Expect.same("audit", 0, x.audit());
        Expect.same("recovery", 13, x.recover());
        Expect.same("segments", 7, x.log(0, 2));

        BatchBroker y = new BatchBroker(1, 1, 64);
        for (int i = 0; i < 9; i++) {
            y.record(1, 0, NONE, 0, 200, 0);
            y.record(1, 0, 1, 0, 280, 0);
            y.seal(-1, -1, -1, i);
            y.produce(0);
        }
        // of 270 bytes, where there were 560, three have room in a block
        Expect.same("nine segments", 9, y.log(0, 2));
        Expect.same("eight go", 8, y.compact(0));
        Expect.same("three, and the open one", 4, y.log(0, 2));
        Expect.same("free", 61 - 4, y.free());
        Expect.same("bytes", 8 * 270 + 560, y.log(0, 5));
        Expect.same("the open one takes the next", 18, Send.one(y, 0, 1, 1, 0));
        Expect.same("still four", 4, y.log(0, 2));
        Expect.same("the first segment has three of them", 1, y.retain(0, 5 * 270 + 560 + 70));
        Expect.same("START", 6, y.log(0, 0));
        Expect.same("audit", 0, y.audit());
    }

    private static void exactRoom() {
        BatchBroker x = new BatchBroker(1, 1, 64);
        // 412 and 412 bytes with a record of 12 to go, 200 more fill a block
        x.record(1, 0, NONE, 0, 300, 0);
        x.record(1, 1, NONE, 0, 35, 0);
        x.record(1, 1, 1, 0, 4, 0);
        Expect.same("bytes", 424, x.seal(-1, -1, -1, 0));
        x.produce(0);
        x.record(1, 0, NONE, 0, 300, 0);
        x.record(1, 1, NONE, 0, 35, 0);
        x.record(1, 1, 1, 0, 4, 0);
        x.seal(-1, -1, -1, 0);
        x.produce(0);
        x.record(1, 1, NONE, 0, 130, 0);
        Expect.same("200 bytes", 200, x.seal(-1, -1, -1, 0));
        x.produce(0);
        Expect.same("848 and 200 bytes", 2, x.log(0, 2));
        Send.block(x, 0, 0);
        put(x, 1, 1, 1, 0);
        Expect.same("four", 4, x.log(0, 2));
        Expect.same("two go", 2, x.compact(0));
        Expect.same("1024 bytes have room in a block", 3, x.log(0, 2));
    }

    private static void fullDisk() {
        // 29 blocks: 14 closed segments and an open one leave 14; 15 closed ones would leave 13
        BatchBroker x = pairs(14, 32);
        Expect.same("14 are free", 14, x.free());
        int writes = x.writes();
        Expect.same("just enough", 24, x.compact(0));
        Expect.same("blocks", 15, x.writes() - writes);
        BatchBroker y = pairs(15, 32);
        writes = y.writes();
        y.crash(1);
        Expect.same("one too few", FULL, y.compact(0));
        Expect.same("nothing written", writes, y.writes());
        Expect.same("it is on", 0, y.isDown() ? 1 : 0);
        Expect.same("records stay", 61, y.log(0, 4));
        Expect.same("segments stay", 16, y.log(0, 2));
        Expect.same("free", 13, y.free());
        Expect.same("audit", 0, y.audit());
        y.crash(NONE);
        y.retain(0, 14 * 960 + 70);
        Expect.same("then there is room", 24, y.compact(0));

        // nothing that goes: 0 even though there is no room
        BatchBroker z = new BatchBroker(1, 1, 32);
        for (int i = 0; i < 29; i++) {
            Send.block(z, 0, 0);
        }
        Expect.same("no block is free", 0, z.free());
        Expect.same("nothing goes", 0, z.compact(0));

        // all goes: no room is needed
        BatchBroker w = new BatchBroker(1, 1, 32);
        for (int i = 0; i < 29; i++) {
            w.record(3, 5, 1, 0, 200, 0);
            w.seal(-1, -1, -1, 0);
            w.produce(0);
        }
        Expect.same("no block is free", 0, w.free());
        Expect.same("all of 28 segments", 84, w.compact(0));
        Expect.same("free", 28, w.free());
        Expect.same("the head alone", 59, w.writes());
        Expect.same("audit", 0, w.audit());
    }

    private static void cutCompaction() {
        for (int n = 1; n <= 6; n++) {
            BatchBroker x = pairs(6, 64);
            put(x, 0, 1, 1, 0);
            put(x, 1, 1, 1, 0);
            put(x, 2, 1, 1, 0);
            int free = x.free();
            x.crash(n);
            // 11 of 12 go: 370 bytes each but for one of 480, two in a segment
            Expect.same("cut", CUT, x.compact(0));
            Expect.same("down", 1, x.isDown() ? 1 : 0);
            Expect.same("as before", 16, x.recover());
            Expect.same("records", 28, x.log(0, 4));
            Expect.same("free", free, x.free());
            Expect.same("audit", 0, x.audit());
            Expect.same("again", 11, x.compact(0));
        }
        BatchBroker x = pairs(6, 64);
        x.crash(7);
        Expect.same("cut by the head", CUT, x.compact(0));
        Expect.same("batches", 13, x.recover());
        Expect.same("it is done", 17, x.log(0, 4));
        Expect.same("audit", 0, x.audit());
        BatchBroker y = pairs(6, 64);
        y.crash(8);
        Expect.same("not cut", 8, y.compact(0));
        Expect.same("one more", CUT, Send.one(y, 0, 1, 1, 0));
    }

    private static void ownLog() {
        BatchBroker x = new BatchBroker(2, 1, 64);
        x.join(0, 3);
        for (int i = 0; i < 30; i++) {
            x.commit(0, 3, 1, i % 2, 0);
        }
        Send.one(x, 1, 1, 1, 0);
        x.commit(0, 3, 1, 1, 1);
        Expect.same("three segments", 3, x.log(2, 2));
        Expect.same("all but the generation go", 25, x.compact(2));
        Expect.same("two segments", 2, x.log(2, 2));
        Expect.same("batches, too", 7, x.log(2, 3));
        Expect.same("committed", 1, x.committed(0, 1));
        Expect.same("committed", 0, x.committed(0, 0));
        x.recover();
        Expect.same("generation", 1, x.group(0, 0));
        Expect.same("committed", 1, x.committed(0, 1));
        Expect.same("audit", 0, x.audit());
    }

    /** More records and keys than a glance can hold. */
    private static void manyKeys() {
        BatchBroker x = new BatchBroker(1, 16, 256);
        for (int round = 0; round < 3; round++) {
            for (int i = 0; i < 10; i++) {
                for (int j = 0; j < 5; j++) {
                    x.record(100, 500 * i + 100 * j + (round == 2 ? 2500 : 0), 2, round, 0, 0);
                }
                x.seal(-1, -1, -1, 0);
                x.produce(0);
            }
        }
        // keys 0 .. 4999 twice, then 2500 .. 7499; the open segment has the last 1500
        Expect.same("all", 15000, x.log(0, 4));
        Expect.same("the first of each go, and 2500 of the second", 7500, x.compact(0));
        Expect.same("left", 7500, x.log(0, 4));
        x.fetch(0, 0, 32768);
        Expect.same("the first left", 5000, x.taken(0, 0));
        Expect.same("its key", 0, x.taken(0, 3));
        Expect.same("again", 0, x.compact(0));
        Expect.same("audit", 0, x.audit());
    }

    public static void main(String[] args) {
        nothingToDo();
        keys();
        laterOnes();
        tombs();
        knownStay();
        whatIsLeft();
        greatestTimes();
        newSegments();
        exactRoom();
        fullDisk();
        cutCompaction();
        ownLog();
        manyKeys();
        Expect.end("CompactTest");
    }
}
