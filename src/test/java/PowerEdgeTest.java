import java.lang.reflect.Field;

/** The boundary cases that the document names of time and power, sentence by sentence. */
public final class PowerEdgeTest {
    private static final int NONE = BatchBroker.NONE;
    private static final int CUT = BatchBroker.CUT;

    private static long crash(BatchBroker x, int n) {
        x.crash(n);
        return 0;
    }

    /** One with something of everything: batches in both logs, notes, a tape, a draft, and what was fetched. */
    private static BatchBroker busy() {
        BatchBroker x = new BatchBroker(2, 1, 64);
        x.join(0, 0);
        x.join(0, 1);
        x.join(0, 0);
        Send.exact(x, 0, 1000);
        Send.exact(x, 0, 1000);
        Send.batch(x, 1, 3, 0, 3, 5, 20);
        x.commit(0, 0, 2, 0, 4);
        x.join(7, 2);
        x.ticks(7);
        x.join(7, 3);
        x.fetch(0, 4, 0);
        x.feed(1, 2, 3, 4, 5);
        x.record(5, 0, NONE, 0, 5, 0);
        return x;
    }

    private interface Asked {
        long answer(BatchBroker x);
    }

    /** A call that throws an illegal argument on one that is busy, and changes nothing. */
    private static void refused(String what, Asked call) {
        BatchBroker x = busy();
        String before = Seen.all(x);
        Expect.argument(what, () -> call.answer(x));
        Expect.same(what + " changes nothing", before, Seen.all(x));
        Expect.same(what + " leaves the draft", 6, x.record(1, 0, NONE, 0, 5, 0));
        x.crash(0);
        Expect.argument(what + ", the one named first is thrown", () -> call.answer(x));
    }

    private static void wrongArguments() {
        Expect.sentence("Of several exceptions the one named first is thrown; a call that throws changes nothing");
        refused("trim", x -> x.trim(21));
        refused("spoil", x -> x.spoil(20, 1));
        refused("record", x -> x.record(0, 0, 0, 0, 0, 0));
        refused("seal", x -> x.seal(0, 0, 0, -1));
        refused("fault", x -> x.fault(2));
        refused("produce", x -> x.produce(2));
        refused("known", x -> x.known(0, -1, 0));
        refused("log", x -> x.log(0, 6));
        refused("fetch", x -> x.fetch(0, 0, 32769));
        refused("byteAt", x -> x.byteAt(1000));
        refused("taken", x -> x.taken(4, 0));
        refused("find", x -> x.find(3, 0));
        refused("retain", x -> x.retain(0, -1));
        refused("compact", x -> x.compact(3));
        refused("join", x -> x.join(0, 8));
        refused("leave", x -> x.leave(8, 0));
        refused("beat", x -> x.beat(0, -1, 2));
        refused("commit", x -> x.commit(0, 0, 2, 2, 0));
        refused("committed", x -> x.committed(0, 2));
        refused("group", x -> x.group(0, 5));
        refused("share", x -> x.share(-1, 0));
        refused("ticks", x -> x.ticks(201));
        refused("crash", x -> crash(x, 1001));
    }

    /** A call that is refused when it is down, and changes nothing of what is there then, and behind recovery. */
    private static void refusedWhenDown(String what, Asked call) {
        BatchBroker x = busy();
        BatchBroker untouched = busy();
        x.crash(0);
        untouched.crash(0);
        String before = Seen.all(x);
        Expect.state(what, () -> call.answer(x));
        Expect.same(what + " changes nothing", before, Seen.all(x));
        Expect.same(what + ", recovery", untouched.recover(), x.recover());
        Expect.same(what + ", behind recovery", Seen.all(untouched), Seen.all(x));
        Expect.same(what + ", the draft", 6, x.record(1, 0, NONE, 0, 5, 0));
    }

    private static void down() {
        Expect.sentence("DOWN (its power failed; then all calls but those of the tape and the draft, byteAt(), taken(), "
                + "recover(), isDown(), writes(), time() are refused)");
        refusedWhenDown("producer", BatchBroker::producer);
        refusedWhenDown("produce", x -> x.produce(0));
        refusedWhenDown("known", x -> x.known(0, 0, 0));
        refusedWhenDown("log", x -> x.log(0, 0));
        refusedWhenDown("fetch", x -> x.fetch(0, 4, 0));
        refusedWhenDown("find", x -> x.find(0, 0));
        refusedWhenDown("retain", x -> x.retain(0, 0));
        refusedWhenDown("compact", x -> x.compact(0));
        refusedWhenDown("join", x -> x.join(0, 5));
        refusedWhenDown("leave", x -> x.leave(0, 0));
        refusedWhenDown("beat", x -> x.beat(0, 0, 2));
        refusedWhenDown("commit", x -> x.commit(0, 0, 2, 0, 0));
        refusedWhenDown("committed", x -> x.committed(0, 0));
        refusedWhenDown("group", x -> x.group(0, 0));
        refusedWhenDown("share", x -> x.share(0, 0));
        refusedWhenDown("ticks", x -> x.ticks(1));
        refusedWhenDown("crash", x -> crash(x, NONE));
        refusedWhenDown("free", BatchBroker::free);
        refusedWhenDown("audit", BatchBroker::audit);
        BatchBroker x = busy();
        int writes = x.writes();
        x.crash(0);
        Expect.same("feed", 40, x.feed(0, 0, 0, 0, 0));
        Expect.same("trim", 0, x.trim(40));
        Expect.same("record", 6, x.record(1, 0, NONE, 0, 5, 0));
        Expect.same("seal", 61 + 6 * 12, x.seal(NONE, NONE, NONE, 0));
        Expect.same("spoil", 2, x.spoil(16, 0));
        Expect.same("fault", 0, x.fault(0));
        Expect.same("byteAt", 4, x.byteAt(7));
        Expect.same("taken", 4, x.taken(0, 0));
        Expect.same("isDown", 1, x.isDown() ? 1 : 0);
        Expect.same("writes", writes, x.writes());
        Expect.same("time", 7, x.time());
        Expect.same("recover", 7, x.recover());
        Expect.same("what was sealed then is sent", 8, x.produce(0));
    }

    private static void ticksEdges() {
        Expect.sentence("ticks: Illegal argument: n is not 1 .. 200");
        BatchBroker x = new BatchBroker(1, 1, 32);
        int[] wrong = {0, -1, 201, Integer.MIN_VALUE, Integer.MAX_VALUE};
        for (int n : wrong) {
            Expect.argument("ticks " + n, () -> x.ticks(n));
        }
        Expect.same("1", 1, x.ticks(1));
        Expect.same("200", 201, x.ticks(200));
        Expect.sentence("ticks: illegal state: also if TIME would be above 100000");
        BatchBroker y = new BatchBroker(1, 1, 32);
        for (int i = 0; i < 499; i++) {
            y.ticks(200);
        }
        y.ticks(1);
        Expect.state("100001", () -> y.ticks(200));
        Expect.argument("the one named first", () -> y.ticks(201));
        Expect.same("nothing changed", 99801, y.time());
        Expect.same("100000", 100000, y.ticks(199));
        Expect.state("one more", () -> y.ticks(1));
        Expect.same("nothing changed", 100000, y.time());
        Expect.sentence("Ticks, up to n, none behind that in which the power fails (which counts): the TIME; CUT");
        for (int n = 1; n <= 3; n++) {
            BatchBroker z = new BatchBroker(1, 1, 32);
            z.join(0, 0);
            z.join(0, 1);
            z.crash(n);
            Expect.same("at 20 by block " + n, n < 3 ? CUT : 40, z.ticks(40));
            Expect.same("time", n < 3 ? 20 : 40, z.time());
            z.recover();
            Expect.same("time behind recovery", n < 3 ? 20 : 40, z.time());
            Expect.same("generation", n < 2 ? 1 : 2, z.group(0, 0));
            Expect.same("goes on", n < 3 ? 21 : 41, z.ticks(1));
        }
    }

    private static void crashEdges() {
        Expect.sentence("crash: Illegal argument: n is not NONE .. 1000");
        BatchBroker x = new BatchBroker(1, 1, 32);
        int[] wrong = {-2, 1001, Integer.MIN_VALUE, Integer.MAX_VALUE};
        x.crash(2);
        for (int n : wrong) {
            Expect.argument("crash " + n, () -> crash(x, n));
        }
        Expect.same("what was said stays", CUT, Send.exact(x, 0, 100));
        Expect.sentence("The power will fail when n more blocks were written, whatever was said before");
        x.recover();
        x.crash(1);
        x.crash(2);
        Expect.same("1, then 2", CUT, Send.exact(x, 0, 100));
        Expect.same("the head was written", 2, x.recover());
        x.crash(5);
        x.crash(1);
        Expect.same("5, then 1", CUT, Send.exact(x, 0, 100));
        Expect.same("the head was not written", 2, x.recover());
        Expect.sentence("with n = 0 it fails at once; with NONE it will not");
        x.crash(1);
        x.crash(NONE);
        Expect.same("it will not", 2, Send.exact(x, 0, 100));
        x.crash(3);
        x.crash(0);
        Expect.same("at once", 1, x.isDown() ? 1 : 0);
        Expect.same("without a block", 7, x.writes());
        x.recover();
        Expect.same("what crash() said is forgotten", 3, Send.exact(x, 0, 100));
        Expect.same("what crash() said is forgotten", 4, Send.exact(x, 0, 100));
        Expect.same("on", 0, x.isDown() ? 1 : 0);
        x.crash(1);
        x.recover();
        Expect.same("forgotten by one that was on", 5, Send.exact(x, 0, 100));
        thousandBlocks();
    }

    private static void thousandBlocks() {
        Expect.sentence("crash(1000): when 1000 more blocks were written, by anything");
        BatchBroker x = new BatchBroker(1, 16, 256);
        x.crash(1000);
        long sent = 0;
        while (x.writes() + 17 < 1000) {
            x.record(50, 0, NONE, 0, 300, 0);
            x.seal(NONE, NONE, NONE, 0);
            Expect.same("base", sent, x.produce(0));
            sent += 50;
            x.retain(0, 0);
        }
        Expect.same("on", 0, x.isDown() ? 1 : 0);
        for (int i = 1; i <= 5; i++) {
            Expect.same("two blocks for a note", i, x.join(0, 0));
        }
        Expect.same("999 blocks", 999, x.writes());
        Expect.same("on", 0, x.isDown() ? 1 : 0);
        Expect.same("block 1000", CUT, x.join(1, 0));
        Expect.same("a thousand", 1000, x.writes());
        Expect.same("down", 1, x.isDown() ? 1 : 0);
    }

    private static void recovery() {
        Expect.sentence("Begins anew from the disk, DOWN or not; the tape, the draft, what was fetched and TIME stay");
        for (int n = 0; n <= 1; n++) {
            BatchBroker x = busy();
            int writes = x.writes();
            x.crash(n);
            Expect.same("three batches and four notes", 7, x.recover());
            Expect.same("on", 0, x.isDown() ? 1 : 0);
            Expect.same("writes", writes, x.writes());
            Expect.same("the tape", 20, x.trim(0));
            Expect.same("the draft", 6, x.record(1, 0, NONE, 0, 5, 0));
            Expect.same("what was fetched", 4, x.taken(0, 0));
            Expect.same("TIME", 7, x.time());
            Expect.same("END", 8, x.log(0, 1));
            Expect.same("known", 1, x.known(1, 3, 0));
            Expect.same("committed", 4, x.committed(0, 0));
            Expect.same("generation", 2, x.group(0, 0));
            Expect.same("empty", 0, x.group(0, 1));
            Expect.same("audit", 0, x.audit());
            Expect.same("again", 7, x.recover());
        }
        Expect.same("of a new one", 0, new BatchBroker(1, 1, 32).recover());
    }

    /** The disk's bytes, which no call of the face can spoil. */
    private static byte[] diskOf(BatchBroker x) throws ReflectiveOperationException {
        Field disk = BatchBroker.class.getDeclaredField("disk");
        disk.setAccessible(true);
        Object found = disk.get(x);
        Field row = found.getClass().getDeclaredField("row");
        row.setAccessible(true);
        return (byte[]) row.get(found);
    }

    private static void audits() throws ReflectiveOperationException {
        Expect.sentence("Reads all logs from the disk, batch by batch: how many have a wrong checksum, length or offset, or "
                + "are not as the broker's own tables say");
        BatchBroker x = busy();
        byte[] row = diskOf(x);
        Expect.same("nothing is wrong", 0, x.audit());
        // blocks 1 to 3 are heads, then come the own log's first segment (4 notes), two of log 0, one of log 1
        int[] places = {4 * 1024, 4 * 1024 + 7, 4 * 1024 + 11, 4 * 1024 + 17, 4 * 1024 + 60, 4 * 1024 + 77,
            4 * 1024 + 78 * 3 + 7, 5 * 1024 + 7, 5 * 1024 + 11, 5 * 1024 + 999, 6 * 1024 + 7, 6 * 1024 + 500, 7 * 1024 + 11,
            7 * 1024 + 108, 1024 + 7, 1024 + 15, 2 * 1024 + 19, 3 * 1024 + 23};
        for (int place : places) {
            row[place] ^= 8;
            Expect.same("byte " + place + " is spoilt", 1, x.audit() > 0 ? 1 : 0);
            row[place] ^= 8;
            Expect.same("byte " + place + " is as it was", 0, x.audit());
        }
        row[5 * 1024 + 999] ^= 1;
        row[6 * 1024 + 999] ^= 1;
        Expect.same("two batches are wrong", 2, x.audit());
    }

    public static void main(String[] args) throws ReflectiveOperationException {
        wrongArguments();
        down();
        ticksEdges();
        crashEdges();
        recovery();
        audits();
        Expect.end("PowerEdgeTest");
    }
}
