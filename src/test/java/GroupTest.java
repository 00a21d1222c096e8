/** Promises 18 to 24: groups. */
public final class GroupTest {
    private static final int NONE = BatchBroker.NONE;
    private static final int FULL = BatchBroker.FULL;
    private static final int CUT = BatchBroker.CUT;
    private static final int STRANGER = BatchBroker.STRANGER;
    private static final int OLD = BatchBroker.OLD;
    private static final int MIXED = BatchBroker.MIXED;
    private static final int FOREIGN = BatchBroker.FOREIGN;
    private static final int OUTSIDE = BatchBroker.OUTSIDE;

    /** Generation, state, members, joined, ticks to the limit. */
    private static void is(String what, BatchBroker x, int group, int... due) {
        for (int i = 0; i < 5; i++) {
            Expect.same(what + ", group(" + group + ", " + i + ")", due[i], x.group(group, i));
        }
    }

    private static BatchBroker stable(int members) {
        BatchBroker x = new BatchBroker(3, 2, 64);
        for (int m = 0; m < members; m++) {
            x.join(0, m);
        }
        if (members > 1) {
            x.join(0, 0);
        }
        return x;
    }

    private static void wrongNumbers(String name, java.util.function.BiFunction<Integer, Integer, Long> call,
            BatchBroker x) {
        int[][] wrong = {{-1, 0}, {8, 0}, {0, -1}, {0, 8}, {Integer.MIN_VALUE, 0}, {0, Integer.MAX_VALUE}};
        for (int[] w : wrong) {
            Expect.argument(name + " " + w[0] + ", " + w[1], () -> call.apply(w[0], w[1]));
        }
        x.crash(0);
        for (int[] w : wrong) {
            Expect.argument(name + " argument before state", () -> call.apply(w[0], w[1]));
        }
        Expect.state(name + " down", () -> call.apply(0, 0));
        x.recover();
    }

    private static void promise18Join() {
        BatchBroker x = new BatchBroker(3, 2, 64);
        is("at first", x, 0, 0, 0, 0, 0, 0);
        x.ticks(7);
        Expect.same("the first one", 1, x.join(0, 5));
        is("stable", x, 0, 1, 2, 32, 32, 0);
        Expect.same("note and head", 2, x.writes());
        Expect.same("again", 2, x.join(0, 5));
        is("another generation", x, 0, 2, 2, 32, 32, 0);
        Expect.same("a second one", NONE, x.join(0, 2));
        is("mixing", x, 0, 2, 1, 36, 4, 20);
        Expect.same("nothing written", 4, x.writes());
        x.ticks(3);
        Expect.same("a third one", NONE, x.join(0, 7));
        is("the limit stays", x, 0, 2, 1, 36 + 128, 4 + 128, 17);
        Expect.same("joined already", NONE, x.join(0, 7));
        Expect.same("the first again", 3, x.join(0, 5));
        is("stable again", x, 0, 3, 2, 36 + 128, 36 + 128, 0);
        Expect.same("a member of a stable group", NONE, x.join(0, 2));
        is("mixing again", x, 0, 3, 1, 36 + 128, 4, 20);
        is("other groups", x, 1, 0, 0, 0, 0, 0);
        Expect.same("another group", 1, x.join(7, 0));
        is("another group", x, 7, 1, 2, 1, 1, 0);
        wrongNumbers("join", (g, m) -> (long) x.join(g, m), x);
        Expect.same("the generations stay", 4, x.join(0, 5));
        joinNote();
        joinAtTheLimit();
        joinWithoutRoom();
        joinCut();
    }

    private static void joinNote() {
        BatchBroker x = new BatchBroker(1, 1, 32);
        x.ticks(100);
        x.join(6, 3);
        x.ticks(5);
        x.join(6, 3);
        byte[] value = {0, 0, 0, 0, 0, 0, 0, 2};
        byte[] record = Model.recordBytes(0, 0, new byte[] {6, -1}, value);
        byte[] due = Model.batchBytes(1, 0, 105, 105, -1, -1, -1, 1, record);
        Expect.same("two notes", 2, x.log(1, 1));
        Expect.same("78 bytes", 78, x.fetch(1, 1, 0));
        byte[] got = Send.fetched(x, 78);
        for (int i = 0; i < 78; i++) {
            Expect.same("byte " + i, due[i], got[i]);
        }
    }

    private static void joinAtTheLimit() {
        BatchBroker x = stable(3);
        Expect.same("0 joins", NONE, x.join(0, 0));
        x.ticks(19);
        is("one tick is left", x, 0, 2, 1, 7, 1, 1);
        Expect.same("1 joins", NONE, x.join(0, 1));
        x.ticks(1);
        is("who has not joined is none", x, 0, 3, 2, 3, 3, 0);
        Expect.same("no member", STRANGER, x.beat(0, 2, 3));
        Expect.same("heard then", 0, x.beat(0, 0, 3));
        x.ticks(29);
        is("they are heard at the end of mixing", x, 0, 3, 2, 3, 3, 0);
        x.ticks(1);
        is("1 was heard no more, and 0 neither", x, 0, 3, 0, 0, 0, 0);
        BatchBroker y = stable(2);
        y.leave(0, 0);
        is("1 has not joined", y, 0, 2, 1, 2, 0, 20);
        y.ticks(20);
        is("empty without any", y, 0, 2, 0, 0, 0, 0);
        Expect.same("no note", 2, y.log(3, 3));
        Expect.same("the generation goes on", 3, y.join(0, 1));
    }

    /** A disk of 29 blocks, all but so many of which are used. */
    private static BatchBroker crowded(int left) {
        BatchBroker x = new BatchBroker(1, 1, 32);
        for (int i = 0; i < 29 - left; i++) {
            Send.block(x, 0, 0);
        }
        return x;
    }

    private static void joinWithoutRoom() {
        BatchBroker x = crowded(0);
        int writes = x.writes();
        Expect.same("no room", NONE, x.join(2, 4));
        is("it goes on mixing", x, 2, 0, 1, 16, 16, 20);
        Expect.same("2 has joined", 0, x.beat(2, 4, 0));
        Expect.same("as with all", NONE, x.join(2, 5));
        x.ticks(25);
        is("tried with each tick", x, 2, 0, 1, 48, 48, 0);
        Expect.same("nothing written", writes, x.writes());
        x.retain(0, 28 * 1024);
        is("not tried by that", x, 2, 0, 1, 48, 48, 0);
        x.ticks(1);
        is("done", x, 2, 1, 2, 48, 48, 0);
        Expect.same("one note", 1, x.log(1, 3));

        BatchBroker y = crowded(1);
        for (int i = 0; i < 13; i++) {
            y.join(0, 0);
        }
        Expect.same("the own segment is full", NONE, y.join(0, 0));
        Expect.same("13", 13, y.group(0, 0));
        y.join(0, 1);
        y.join(0, 2);
        is("none is left out", y, 0, 13, 1, 7, 7, 20);
        y.ticks(30);
        is("nor is one that was silent", y, 0, 13, 1, 7, 7, 0);
        y.retain(0, 0);
        Expect.same("tried with leave", 1, y.leave(0, 2));
        is("done", y, 0, 14, 2, 3, 3, 0);

        BatchBroker z = crowded(1);
        z.join(0, 0);
        z.join(0, 1);
        z.join(0, 0);
        for (int i = 0; i < 11; i++) {
            z.join(1, 0);
        }
        z.join(0, 0);
        z.ticks(30);
        is("the limit is over: 1 has not joined, and stays", z, 0, 2, 1, 3, 1, 0);
        Expect.same("it may join", NONE, z.join(0, 2));
        Expect.same("and is heard", 1, z.beat(0, 1, 2));
        z.retain(0, 0);
        Expect.same("tried with join", 3, z.join(0, 2));
        is("1 is left out now", z, 0, 3, 2, 5, 5, 0);
    }

    private static void joinCut() {
        for (int n = 1; n <= 3; n++) {
            BatchBroker x = new BatchBroker(1, 1, 32);
            x.join(0, 0);
            x.crash(n);
            Expect.same("cut", n == 3 ? 2 : CUT, x.join(0, 0));
            Expect.same("down", n == 3 ? 0 : 1, x.isDown() ? 1 : 0);
            x.recover();
            is("behind recovery", x, 0, n == 1 ? 1 : 2, 0, 0, 0, 0);
            Expect.same("the next", n == 1 ? 2 : 3, x.join(0, 0));
            Expect.same("audit", 0, x.audit());
        }
        BatchBroker y = new BatchBroker(1, 1, 32);
        y.join(0, 0);
        y.crash(1);
        Expect.same("nothing is written by one that mixes", NONE, y.join(0, 1));
    }

    private static void promise19Leave() {
        BatchBroker x = stable(3);
        Expect.same("no member", STRANGER, x.leave(0, 3));
        Expect.same("no member of that group", STRANGER, x.leave(1, 0));
        is("nothing changed", x, 0, 2, 2, 7, 7, 0);
        x.ticks(2);
        x.crash(1);
        Expect.same("leaves", 1, x.leave(0, 1));
        Expect.same("nothing was written", 0, x.isDown() ? 1 : 0);
        x.crash(NONE);
        is("a stable one mixes", x, 0, 2, 1, 5, 0, 20);
        Expect.same("again", STRANGER, x.leave(0, 1));
        x.ticks(1);
        Expect.same("0 joins", NONE, x.join(0, 0));
        is("2 is missing", x, 0, 2, 1, 5, 1, 19);
        Expect.same("2 leaves", 1, x.leave(0, 2));
        is("done mixing", x, 0, 3, 2, 1, 1, 0);
        int writes = x.writes();
        Expect.same("the last one", 1, x.leave(0, 0));
        is("empty", x, 0, 3, 0, 0, 0, 0);
        Expect.same("nothing written", writes, x.writes());
        BatchBroker y = stable(3);
        y.join(0, 0);
        y.leave(0, 0);
        is("one that has joined leaves", y, 0, 2, 1, 6, 0, 20);
        y.leave(0, 1);
        y.leave(0, 2);
        is("all left while it was mixing", y, 0, 2, 0, 0, 0, 0);
        Expect.same("anew", 3, y.join(0, 6));
        wrongNumbers("leave", (g, m) -> (long) y.leave(g, m), y);
        for (int n = 1; n <= 3; n++) {
            BatchBroker z = stable(2);
            z.join(0, 0);
            z.crash(n);
            Expect.same("cut", n == 3 ? 1 : CUT, z.leave(0, 1));
            z.recover();
            Expect.same("generation", n == 1 ? 2 : 3, z.group(0, 0));
        }
    }

    private static void promise20Beat() {
        BatchBroker x = stable(2);
        Expect.same("stable", 0, x.beat(0, 0, 2));
        Expect.same("old", OLD, x.beat(0, 0, 1));
        Expect.same("too new", OLD, x.beat(0, 0, 3));
        Expect.same("stranger before old", STRANGER, x.beat(0, 2, 1));
        Expect.same("stranger", STRANGER, x.beat(0, 2, 2));
        Expect.same("any generation", OLD, x.beat(0, 0, Integer.MIN_VALUE));
        x.ticks(29);
        x.beat(0, 0, 2);
        x.beat(0, 1, 1);
        x.ticks(1);
        is("who told an old one was not heard", x, 0, 2, 1, 1, 0, 20);
        Expect.same("not joined", 1, x.beat(0, 0, 2));
        Expect.same("old while mixing", OLD, x.beat(0, 0, 3));
        Expect.same("stranger while mixing", STRANGER, x.beat(0, 1, 2));
        x.join(0, 1);
        Expect.same("joined", 0, x.beat(0, 1, 2));
        Expect.same("not joined", 1, x.beat(0, 0, 2));
        Expect.same("that is no joining", NONE, x.join(0, 1));
        Expect.same("done", 3, x.join(0, 0));
        x.ticks(29);
        Expect.same("heard at the last tick", 0, x.beat(0, 0, 3));
        x.beat(0, 1, 3);
        x.ticks(29);
        is("both are there", x, 0, 3, 2, 3, 3, 0);
        x.ticks(1);
        is("none is there", x, 0, 3, 0, 0, 0, 0);
        Expect.same("then it is a stranger", STRANGER, x.beat(0, 0, 3));
        Expect.same("nothing is written", 6, x.writes());
        wrongNumbers("beat", (g, m) -> (long) x.beat(g, m, 0), x);
    }

    private static void promise21Commit() {
        BatchBroker x = stable(2);
        Send.batch(x, 0, -1, -1, 3, 0, 0);
        Send.batch(x, 1, -1, -1, 5, 0, 0);
        x.ticks(4);
        Expect.same("0 has logs 0 and 2", 0, x.commit(0, 0, 2, 0, 3));
        Expect.same("and 2", 0, x.commit(0, 0, 2, 2, 0));
        Expect.same("1 has log 1", 0, x.commit(0, 1, 2, 1, 0));
        Expect.same("stranger before old", STRANGER, x.commit(0, 2, 1, 0, 0));
        Expect.same("stranger in another group", STRANGER, x.commit(1, 0, 0, 0, 0));
        Expect.same("old before foreign", OLD, x.commit(0, 0, 1, 1, 0));
        Expect.same("old", OLD, x.commit(0, 0, 3, 0, 0));
        Expect.same("foreign before outside", FOREIGN, x.commit(0, 0, 2, 1, 6));
        Expect.same("foreign", FOREIGN, x.commit(0, 1, 2, 2, 0));
        Expect.same("outside", OUTSIDE, x.commit(0, 0, 2, 0, 4));
        Expect.same("outside", OUTSIDE, x.commit(0, 0, 2, 0, -1));
        Expect.same("outside", OUTSIDE, x.commit(0, 0, 2, 2, 1));
        Expect.same("outside", OUTSIDE, x.commit(0, 0, 2, 0, Long.MIN_VALUE));
        Expect.same("five notes", 5, x.log(3, 3));
        Expect.argument("the own log", () -> x.commit(0, 0, 2, 3, 0));
        Expect.argument("log -1", () -> x.commit(0, 0, 2, -1, 0));
        Expect.argument("log 4", () -> x.commit(0, 0, 2, 4, 0));
        Expect.same("a note of it", 78, x.fetch(3, 2, 0));
        long[] due = {2, 4, 2, 0, 8, 3};
        for (int what = 0; what <= 5; what++) {
            Expect.same("the note, " + what, due[what], x.taken(0, what));
        }
        x.join(0, 2);
        Expect.same("old before mixed", OLD, x.commit(0, 0, 1, 0, 0));
        Expect.same("mixed before foreign", MIXED, x.commit(0, 0, 2, 1, 0));
        Expect.same("mixed", MIXED, x.commit(0, 0, 2, 0, 0));
        wrongNumbers("commit", (g, m) -> (long) x.commit(g, m, 0, 0, 0), x);
        commitIsHeard();
        commitBounds();
        commitFullAndCut();
    }

    private static void commitIsHeard() {
        BatchBroker x = stable(1);
        x.ticks(29);
        Expect.same("commits", 0, x.commit(0, 0, 1, 0, 0));
        x.ticks(29);
        is("was heard", x, 0, 1, 2, 1, 1, 0);
        Expect.same("refused", OUTSIDE, x.commit(0, 0, 1, 0, 1));
        Expect.same("refused", OLD, x.commit(0, 0, 2, 0, 0));
        x.ticks(1);
        is("was not heard", x, 0, 1, 0, 0, 0, 0);
    }

    private static void commitBounds() {
        BatchBroker x = new BatchBroker(1, 1, 64);
        Send.block(x, 0, 0);
        Send.block(x, 0, 0);
        x.retain(0, 0);
        x.join(0, 0);
        Expect.same("below START", OUTSIDE, x.commit(0, 0, 1, 0, 3));
        Expect.same("START", 0, x.commit(0, 0, 1, 0, 4));
        Expect.same("END", 0, x.commit(0, 0, 1, 0, 8));
        Expect.same("behind END", OUTSIDE, x.commit(0, 0, 1, 0, 9));
        Expect.same("the latest", 8, x.committed(0, 0));
        Expect.same("back again", 0, x.commit(0, 0, 1, 0, 5));
        Expect.same("the latest, not the greatest", 5, x.committed(0, 0));
    }

    private static void commitFullAndCut() {
        BatchBroker x = crowded(1);
        x.join(0, 0);
        for (int i = 0; i < 12; i++) {
            Expect.same("room", 0, x.commit(0, 0, 1, 0, i));
        }
        x.ticks(29);
        int writes = x.writes();
        x.crash(1);
        Expect.same("full", FULL, x.commit(0, 0, 1, 0, 13));
        Expect.same("nothing written", writes, x.writes());
        Expect.same("as before", 11, x.committed(0, 0));
        x.crash(NONE);
        x.ticks(1);
        is("it was not heard", x, 0, 1, 0, 0, 0, 0);
        for (int n = 1; n <= 3; n++) {
            BatchBroker y = new BatchBroker(1, 1, 32);
            Send.block(y, 0, 0);
            y.join(0, 0);
            y.commit(0, 0, 1, 0, 1);
            y.crash(n);
            Expect.same("cut", n == 3 ? 0 : CUT, y.commit(0, 0, 1, 0, 2));
            y.recover();
            Expect.same("there just if its head was written", n == 1 ? 1 : 2, y.committed(0, 0));
            Expect.same("generation", 1, y.group(0, 0));
        }
    }

    private static void promise22Committed() {
        BatchBroker x = new BatchBroker(2, 1, 64);
        Expect.same("nothing", NONE, x.committed(0, 0));
        Send.block(x, 0, 0);
        Send.block(x, 1, 0);
        x.join(0, 0);
        x.join(7, 1);
        x.commit(0, 0, 1, 0, 1);
        x.commit(0, 0, 1, 1, 2);
        x.commit(7, 1, 1, 0, 3);
        Expect.same("of 0, log 0", 1, x.committed(0, 0));
        Expect.same("of 0, log 1", 2, x.committed(0, 1));
        Expect.same("of 7, log 0", 3, x.committed(7, 0));
        Expect.same("of 7, log 1", NONE, x.committed(7, 1));
        Expect.same("of 1", NONE, x.committed(1, 0));
        x.commit(0, 0, 1, 0, 0);
        Expect.same("the latest", 0, x.committed(0, 0));
        x.leave(0, 0);
        Expect.same("of an empty group", 0, x.committed(0, 0));
        Expect.argument("the own log", () -> x.committed(0, 2));
        Expect.argument("log 3", () -> x.committed(0, 3));
        Expect.argument("log -1", () -> x.committed(0, -1));
        Expect.argument("group 8", () -> x.committed(8, 0));
        Expect.argument("group -1", () -> x.committed(-1, 0));
        x.crash(0);
        Expect.argument("argument before state", () -> x.committed(0, 2));
        Expect.state("down", () -> x.committed(0, 0));
        x.recover();
        Expect.same("behind recovery", 2, x.committed(0, 1));
        Expect.same("behind recovery", 3, x.committed(7, 0));
        Expect.same("generations are not mixed up", 1, x.group(7, 0));
        Expect.same("nor with none", 0, x.group(1, 0));
    }

    private static void promise23Group() {
        BatchBroker x = new BatchBroker(2, 1, 64);
        for (int g = 0; g < 8; g++) {
            is("at first", x, g, 0, 0, 0, 0, 0);
        }
        x.join(3, 7);
        x.join(3, 0);
        x.ticks(13);
        is("mixing", x, 3, 1, 1, 129, 1, 7);
        x.ticks(7);
        is("stable", x, 3, 2, 2, 1, 1, 0);
        Expect.argument("what 5", () -> x.group(0, 5));
        Expect.argument("what -1", () -> x.group(0, -1));
        Expect.argument("group 8", () -> x.group(8, 0));
        Expect.argument("group -1", () -> x.group(-1, 0));
        x.crash(0);
        Expect.argument("argument before state", () -> x.group(0, 5));
        Expect.state("down", () -> x.group(0, 0));
        x.recover();
        is("behind recovery", x, 3, 2, 0, 0, 0, 0);
    }

    private static void promise24Share() {
        BatchBroker x = new BatchBroker(8, 1, 64);
        Expect.same("of an empty group", 0, x.share(0, 0));
        int[] joins = {6, 1, 3, 6};
        for (int m : joins) {
            x.join(0, m);
        }
        Expect.same("1 is the first", 0b01001001, x.share(0, 1));
        Expect.same("3 is the second", 0b10010010, x.share(0, 3));
        Expect.same("6 is the third", 0b00100100, x.share(0, 6));
        Expect.same("no member", 0, x.share(0, 0));
        Expect.same("another group", 0, x.share(1, 1));
        x.leave(0, 3);
        Expect.same("mixing", 0, x.share(0, 1));
        x.join(0, 1);
        x.join(0, 6);
        Expect.same("every other", 0b01010101, x.share(0, 1));
        Expect.same("every other", 0b10101010, x.share(0, 6));
        x.leave(0, 1);
        x.join(0, 6);
        Expect.same("all", 255, x.share(0, 6));
        BatchBroker y = new BatchBroker(1, 1, 64);
        y.join(0, 4);
        y.join(0, 2);
        y.join(0, 4);
        Expect.same("one log", 1, y.share(0, 2));
        Expect.same("none is left", 0, y.share(0, 4));
        wrongNumbers("share", (g, m) -> (long) y.share(g, m), y);
    }

    public static void main(String[] args) {
        promise18Join();
        promise19Leave();
        promise20Beat();
        promise21Commit();
        promise22Committed();
        promise23Group();
        promise24Share();
        Expect.end("GroupTest");
    }
}
