/** Promises 25 to 32: time and power. */
public final class PowerTest {
    private static final int NONE = BatchBroker.NONE;
    private static final int CUT = BatchBroker.CUT;

    private static void promise25Ticks() {
        BatchBroker x = new BatchBroker(1, 1, 32);
        Expect.argument("0", () -> x.ticks(0));
        Expect.argument("-1", () -> x.ticks(-1));
        Expect.argument("201", () -> x.ticks(201));
        Expect.argument("least", () -> x.ticks(Integer.MIN_VALUE));
        for (int i = 1; i < 500; i++) {
            Expect.same("ticks", 200 * i, x.ticks(200));
        }
        Expect.same("one is left", 99999, x.ticks(199));
        Expect.state("above 100000", () -> x.ticks(200));
        Expect.same("a throw changes nothing", 99999, x.time());
        Expect.argument("argument before state", () -> x.ticks(201));
        Expect.state("two more", () -> x.ticks(2));
        Expect.same("the last one", 100000, x.ticks(1));
        Expect.state("one more", () -> x.ticks(1));
        Expect.same("as it was", 100000, x.time());

        BatchBroker y = new BatchBroker(1, 1, 32);
        y.crash(0);
        Expect.argument("argument before state", () -> y.ticks(0));
        Expect.state("down", () -> y.ticks(1));
        Expect.same("as it was", 0, y.time());
        silentMembers();
        ticksCut();
    }

    private static void silentMembers() {
        BatchBroker x = new BatchBroker(2, 1, 32);
        x.join(0, 0);
        x.join(0, 1);
        x.join(0, 0);
        x.join(1, 2);
        x.ticks(10);
        x.beat(0, 1, 2);
        Expect.same("29", 29, x.ticks(19));
        Expect.same("both", 3, x.group(0, 2));
        Expect.same("stable", 2, x.group(1, 1));
        x.crash(1);
        Expect.same("30", 30, x.ticks(1));
        Expect.same("0 is gone", 2, x.group(0, 2));
        Expect.same("it mixes", 1, x.group(0, 1));
        Expect.same("anew", 20, x.group(0, 4));
        Expect.same("none has joined", 0, x.group(0, 3));
        Expect.same("the other group is empty", 0, x.group(1, 1));
        Expect.same("without members", 0, x.group(1, 2));
        Expect.same("its generation stays", 1, x.group(1, 0));
        Expect.same("in a mixing one nobody is silent", 49, x.ticks(19));
        Expect.same("1 is a member", 2, x.group(0, 2));
        Expect.same("until the limit", 50, x.ticks(1));
        Expect.same("empty", 0, x.group(0, 1));
        Expect.same("nothing was written", 0, x.isDown() ? 1 : 0);

        BatchBroker y = new BatchBroker(2, 1, 32);
        y.join(0, 0);
        y.join(0, 1);
        Expect.same("in one call", 200, y.ticks(200));
        Expect.same("1 became the only one at 20, was silent at 50", 2, y.group(0, 0));
        Expect.same("empty", 0, y.group(0, 1));
        y.fetch(2, 1, 0);
        Expect.same("its note was at 20", 20, y.taken(0, 1));
    }

    private static void ticksCut() {
        for (int n = 1; n <= 5; n++) {
            BatchBroker x = new BatchBroker(1, 1, 32);
            for (int g = 5; g >= 2; g -= 3) {
                x.join(g, 0);
                x.join(g, 1);
            }
            x.crash(n);
            Expect.same("two groups at 20", n == 5 ? 60 : CUT, x.ticks(60));
            Expect.same("the tick of the cut counts, none behind it", n == 5 ? 60 : 20, x.time());
            Expect.same("down", n == 5 ? 0 : 1, x.isDown() ? 1 : 0);
            Expect.same("writes", 4 + Math.min(n, 4), x.writes());
            x.recover();
            Expect.same("TIME stays", n == 5 ? 60 : 20, x.time());
            Expect.same("group 2 is the first", n < 2 ? 1 : 2, x.group(2, 0));
            Expect.same("group 5 comes then", n < 4 ? 1 : 2, x.group(5, 0));
        }
    }

    private static void promise26Time() {
        BatchBroker x = new BatchBroker(1, 1, 32);
        Expect.same("at first", 0, x.time());
        x.ticks(3);
        x.ticks(1);
        Expect.same("4", 4, x.time());
        x.crash(0);
        Expect.same("when down", 4, x.time());
        x.recover();
        Expect.same("behind recovery", 4, x.time());
    }

    private static long crash(BatchBroker x, int n) {
        x.crash(n);
        return 0;
    }

    private static void promise27Crash() {
        BatchBroker x = new BatchBroker(2, 1, 64);
        Expect.argument("-2", () -> crash(x, -2));
        Expect.argument("1001", () -> crash(x, 1001));
        Expect.argument("least", () -> crash(x, Integer.MIN_VALUE));
        crash(x, 1000);
        Expect.same("it is on", 0, x.isDown() ? 1 : 0);
        crash(x, 3);
        Expect.argument("1001", () -> crash(x, 1001));
        Expect.same("two blocks", 0, Send.one(x, 0, 0, 1, 0));
        Expect.same("the third one", CUT, Send.one(x, 0, 0, 1, 0));
        Expect.same("down", 1, x.isDown() ? 1 : 0);
        Expect.argument("argument before state", () -> crash(x, -2));
        Expect.state("down", () -> crash(x, 5));
        Expect.state("down", () -> crash(x, NONE));
        Expect.state("down", () -> crash(x, 0));
        x.recover();
        crash(x, 1);
        crash(x, 4);
        Expect.same("whatever was said before", 1, Send.one(x, 0, 0, 1, 0));
        crash(x, NONE);
        Expect.same("it will not", 2, Send.one(x, 0, 0, 1, 0));
        Expect.same("it will not", 3, Send.one(x, 0, 0, 1, 0));
        crash(x, 0);
        Expect.same("at once", 1, x.isDown() ? 1 : 0);
        x.recover();
        // by anything: numbers, batches, notes, retention, compaction
        crash(x, 8);
        Expect.same("one", 0, x.producer());
        Expect.same("two", 4, Send.block(x, 0, 0));
        Expect.same("two", 1, x.join(0, 0));
        Expect.same("two", 3, x.compact(0));
        Expect.same("the eighth", CUT, x.retain(0, 0));
    }

    private static void promise28Recover() {
        BatchBroker x = new BatchBroker(2, 1, 64);
        Expect.same("nothing", 0, x.recover());
        Send.batch(x, 0, 3, 0, 2, 0, 0);
        Send.batch(x, 1, 3, 0, 2, 0, 0);
        Send.batch(x, 1, 3, 2, 2, 0, 0);
        x.join(2, 2);
        x.join(2, 3);
        x.commit(2, 2, 1, 0, 1);
        x.join(2, 2);
        Expect.same("committed by a stable one", 0, x.commit(2, 2, 2, 0, 1));
        x.ticks(5);
        x.producer();
        x.feed(1, 2, 3, 4, 5);
        x.record(7, 0, 0, 0, 0, 0);
        x.fetch(1, 2, 0);
        int writes = x.writes();
        x.crash(1);
        Expect.same("three batches and three notes, when it is on", 6, x.recover());
        Expect.same("no writes", writes, x.writes());
        Expect.same("TIME", 5, x.time());
        Expect.same("the tape", 20, x.trim(0));
        Expect.same("the draft", 8, x.record(1, 0, 0, 0, 0, 0));
        Expect.same("what was fetched", 2, x.taken(0, 0));
        Expect.same("groups are empty", 0, x.group(2, 1));
        Expect.same("without members", 0, x.group(2, 2));
        Expect.same("their generation", 2, x.group(2, 0));
        Expect.same("committed", 1, x.committed(2, 0));
        Expect.same("known", 2, x.known(1, 3, 0));
        Expect.same("what crash() said is forgotten", 100, x.producer());
        x.crash(0);
        Expect.same("when it is down", 6, x.recover());
        Expect.same("it is on", 0, x.isDown() ? 1 : 0);
        Expect.same("END", 4, x.log(1, 1));
        Expect.same("audit", 0, x.audit());
    }

    private static void promise29IsDown() {
        BatchBroker x = new BatchBroker(1, 1, 32);
        Expect.same("on", 0, x.isDown() ? 1 : 0);
        x.crash(2);
        Expect.same("on", 0, x.isDown() ? 1 : 0);
        Send.one(x, 0, 0, 1, 0);
        Expect.same("down", 1, x.isDown() ? 1 : 0);
        x.recover();
        Expect.same("on", 0, x.isDown() ? 1 : 0);
        downRefuses();
    }

    private static void downRefuses() {
        BatchBroker x = new BatchBroker(1, 1, 32);
        x.join(0, 0);
        Send.one(x, 0, 0, 1, 0);
        x.fetch(0, 0, 0);
        x.crash(0);
        Expect.Call[] refused = {x::producer, () -> x.produce(0), () -> x.known(0, 0, 0), () -> x.log(0, 0),
            () -> x.fetch(0, 0, 0), () -> x.find(0, 0), () -> x.retain(0, 0), () -> x.compact(0),
            () -> x.join(0, 0), () -> x.leave(0, 0), () -> x.beat(0, 0, 1), () -> x.commit(0, 0, 1, 0, 0),
            () -> x.committed(0, 0), () -> x.group(0, 0), () -> x.share(0, 0), () -> x.ticks(1), () -> crash(x, 1),
            x::free, x::audit};
        for (int i = 0; i < refused.length; i++) {
            Expect.state("refused " + i, refused[i]);
        }
        Expect.same("feed", 20, x.feed(0, 0, 0, 0, 0));
        Expect.same("trim", 19, x.trim(1));
        Expect.same("spoil", 3, x.spoil(0, 3));
        Expect.same("record", 1, x.record(1, 0, 0, 0, 0, 0));
        Expect.same("seal", 19 + 61 + 7, x.seal(0, 0, 0, 0));
        Expect.same("fault", 1, x.fault(0));
        Expect.same("byteAt", 2, x.byteAt(16));
        Expect.same("taken", 0, x.taken(0, 0));
        Expect.same("time", 0, x.time());
        Expect.same("writes", 4, x.writes());
        Expect.same("recover", 2, x.recover());
        Expect.same("generation", 1, x.group(0, 0));
    }

    private static void promise30Writes() {
        BatchBroker x = new BatchBroker(2, 2, 64);
        Expect.same("none", 0, x.writes());
        x.producer();
        Expect.same("block 0", 1, x.writes());
        Send.block(x, 0, 1);
        Expect.same("two blocks and a head", 4, x.writes());
        Send.block(x, 0, -1);
        Expect.same("one block and a head", 6, x.writes());
        Send.block(x, 1, 0);
        Expect.same("one block and a head", 8, x.writes());
        Send.block(x, 1, 0);
        Expect.same("the second block and a head", 10, x.writes());
        x.join(0, 0);
        Expect.same("a note and a head", 12, x.writes());
        Send.block(x, 0, 0);
        Expect.same("a new segment", 14, x.writes());
        x.retain(0, 0);
        Expect.same("a head", 15, x.writes());
        x.crash(2);
        x.record(5, 0, NONE, 0, 300, 0);
        x.seal(NONE, NONE, NONE, 0);
        x.produce(1);
        Expect.same("no more than there were", 17, x.writes());
        x.recover();
        Expect.same("none by recovery", 17, x.writes());
        x.find(0, 0);
        x.fetch(0, 8, 0);
        x.audit();
        x.free();
        x.compact(0);
        x.ticks(100);
        Expect.same("none by reading", 17, x.writes());
    }

    private static void promise31Free() {
        BatchBroker x = new BatchBroker(2, 3, 40);
        Expect.same("all", 36, x.free());
        Send.block(x, 0, 0);
        Expect.same("a segment", 33, x.free());
        Send.one(x, 0, 0, 1, 0);
        Expect.same("the same segment", 33, x.free());
        x.join(0, 0);
        Expect.same("the own log's", 30, x.free());
        x.record(9, 0, NONE, 0, 300, 0);
        x.seal(NONE, NONE, NONE, 0);
        x.crash(3);
        x.produce(0);
        Expect.state("down", x::free);
        x.recover();
        Expect.same("a segment that was not there", 30, x.free());
        x.record(9, 0, NONE, 0, 300, 0);
        x.seal(NONE, NONE, NONE, 0);
        x.crash(4);
        Expect.same("cut", CUT, x.produce(0));
        x.recover();
        Expect.same("one that was", 27, x.free());
        x.retain(0, 0);
        Expect.same("one that went", 30, x.free());
    }

    private static void promise32Audit() {
        BatchBroker x = new BatchBroker(2, 1, 40);
        Expect.same("nothing", 0, x.audit());
        for (int i = 0; i < 70; i++) {
            int log = i % 2;
            x.record(2, i % 5, 1, i, 100, 0);
            x.seal(log, 0, i / 2 * 2, i);
            if (i % 7 == 0) {
                x.crash(1 + i % 3);
            }
            x.produce(log);
            if (i % 9 == 0 && !x.isDown()) {
                x.compact(log);
            }
            if (i % 11 == 0 && !x.isDown()) {
                x.retain(log, 2000);
            }
            if (x.isDown()) {
                x.recover();
            }
            Expect.same("audit " + i, 0, x.audit());
        }
        x.crash(0);
        Expect.state("down", x::audit);
    }

    public static void main(String[] args) {
        promise25Ticks();
        promise26Time();
        promise27Crash();
        promise28Recover();
        promise29IsDown();
        promise30Writes();
        promise31Free();
        promise32Audit();
        Expect.end("PowerTest");
    }
}
