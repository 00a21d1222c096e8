import java.util.Arrays;

/** The boundary cases that the document names of groups, sentence by sentence. */
public final class GroupEdgeTest {
    private static final int NONE = BatchBroker.NONE;
    private static final int FULL = BatchBroker.FULL;
    private static final int CUT = BatchBroker.CUT;
    private static final int STRANGER = BatchBroker.STRANGER;
    private static final int OLD = BatchBroker.OLD;
    private static final int MIXED = BatchBroker.MIXED;
    private static final int FOREIGN = BatchBroker.FOREIGN;
    private static final int OUTSIDE = BatchBroker.OUTSIDE;

    /** Generation, state, members, joined, ticks to the limit. */
    private static void is(String what, BatchBroker x, int group, int... due) {
        for (int i = 0; i < 5; i++) {
            Expect.same(what + ", group(" + group + ", " + i + ")", due[i], x.group(group, i));
        }
    }

    /** A stable group 0 of the members 0 .. n - 1, in generation 2, or 1 if there is one. */
    private static BatchBroker stable(int members, int logs) {
        BatchBroker x = new BatchBroker(logs, 1, 64);
        for (int m = 0; m < members; m++) {
            x.join(0, m);
        }
        if (members > 1) {
            x.join(0, 0);
        }
        return x;
    }

    /** A broker without any block left for another segment; its log 0 has 29 segments, less those told. */
    private static BatchBroker crowded(int left) {
        BatchBroker x = new BatchBroker(1, 1, 32);
        for (int i = left; i < 29; i++) {
            Send.exact(x, 0, 1024);
        }
        return x;
    }

    // ---- which groups and members there are

    private static void numbers() {
        Expect.sentence("GROUPS are 0 .. 7, their possible MEMBERS 0 .. 7; illegal argument: no such group, member");
        BatchBroker x = new BatchBroker(1, 1, 32);
        int[] wrong = {-1, 8, Integer.MIN_VALUE, Integer.MAX_VALUE};
        for (int w : wrong) {
            Expect.argument("join, group " + w, () -> x.join(w, 0));
            Expect.argument("join, member " + w, () -> x.join(0, w));
            Expect.argument("leave, group " + w, () -> x.leave(w, 0));
            Expect.argument("leave, member " + w, () -> x.leave(0, w));
            Expect.argument("beat, group " + w, () -> x.beat(w, 0, 0));
            Expect.argument("beat, member " + w, () -> x.beat(0, w, 0));
            Expect.argument("commit, group " + w, () -> x.commit(w, 0, 0, 0, 0));
            Expect.argument("commit, member " + w, () -> x.commit(0, w, 0, 0, 0));
            Expect.argument("committed, group " + w, () -> x.committed(w, 0));
            Expect.argument("group " + w, () -> x.group(w, 0));
            Expect.argument("share, group " + w, () -> x.share(w, 0));
            Expect.argument("share, member " + w, () -> x.share(0, w));
        }
        Expect.same("nothing was written", 0, x.writes());
        Expect.same("the last group, the last member", 1, x.join(7, 7));
        Expect.same("the last group, the last member", 0, x.beat(7, 7, 1));
        Expect.same("the last group, the last member", 1, x.share(7, 7));
        Expect.same("the last group, the last member", 0, x.commit(7, 7, 1, 0, 0));
        Expect.same("the last group, the last member", 1, x.leave(7, 7));
        Expect.sentence("group: Illegal argument: also if what is none of these");
        Expect.argument("-1", () -> x.group(0, -1));
        Expect.argument("5", () -> x.group(0, 5));
    }

    // ---- mixing

    private static void mixing() {
        Expect.sentence("MIXES: no member has joined, its LIMIT is TIME and 20. DONE MIXING when all have joined, or TIME "
                + "is not less than the limit");
        BatchBroker x = new BatchBroker(1, 1, 32);
        x.ticks(5);
        x.join(0, 0);
        x.join(0, 1);
        is("at once", x, 0, 1, 1, 3, 2, 20);
        x.ticks(19);
        is("the last tick of mixing", x, 0, 1, 1, 3, 2, 1);
        x.ticks(1);
        is("at the limit: those who have not joined are no members", x, 0, 2, 2, 2, 2, 0);
        Expect.same("one note for it", 2, x.log(1, 3));
        x.join(0, 0);
        is("mixing again", x, 0, 2, 1, 3, 1, 20);
        Expect.same("when all have joined, long ahead of the limit", 3, x.join(0, 1));
        is("stable", x, 0, 3, 2, 3, 3, 0);
        Expect.sentence("without any it is empty");
        x.leave(0, 0);
        is("1 is a member that has not joined", x, 0, 3, 1, 2, 0, 20);
        int writes = x.writes();
        Expect.same("the limit", 45, x.ticks(20));
        is("empty at the limit", x, 0, 3, 0, 0, 0, 0);
        Expect.same("without a note", writes, x.writes());
        Expect.sentence("the new generation, 1 greater; all members are heard now");
        BatchBroker y = stable(2, 1);
        y.ticks(25);
        y.join(0, 2);
        y.join(0, 0);
        y.ticks(15);
        Expect.same("all three, the first two long ago", 3, y.join(0, 1));
        y.ticks(29);
        is("all were heard at the end of mixing", y, 0, 3, 2, 7, 7, 0);
        Expect.same("its last tick", 70, y.ticks(1));
        is("and no more", y, 0, 3, 0, 0, 0, 0);
    }

    private static void joining() {
        Expect.sentence("join(): the member, if it is none, is one; a stable or empty group mixes (a stable one also when "
                + "it was a member already)");
        BatchBroker x = new BatchBroker(1, 1, 32);
        Expect.same("the only one of an empty group", 1, x.join(0, 3));
        Expect.same("the only one of a stable group", 2, x.join(0, 3));
        Expect.same("another", NONE, x.join(0, 4));
        is("mixing", x, 0, 2, 1, 24, 16, 20);
        x.ticks(7);
        Expect.same("one that has joined, again", NONE, x.join(0, 4));
        is("the limit stays", x, 0, 2, 1, 24, 16, 13);
        Expect.same("the other", 3, x.join(0, 3));
        Expect.same("a member of a stable one of two", NONE, x.join(0, 3));
        is("it mixes", x, 0, 3, 1, 24, 8, 20);
        Expect.sentence("in a mixing one nobody is dropped for being silent");
        BatchBroker y = crowded(0);
        y.join(0, 0);
        y.ticks(200);
        is("without room for its note", y, 0, 0, 1, 1, 1, 0);
    }

    private static void leaving() {
        Expect.sentence("leave(): it is no member any more; without any the group is empty; a stable one mixes; then it may "
                + "be done mixing");
        BatchBroker x = stable(3, 1);
        Expect.same("of three", 1, x.leave(0, 0));
        is("mixes", x, 0, 2, 1, 6, 0, 20);
        x.join(0, 1);
        Expect.same("the last that has not joined", 1, x.leave(0, 2));
        is("done mixing", x, 0, 3, 2, 2, 2, 0);
        Expect.same("the last one of a stable group", 1, x.leave(0, 1));
        is("empty", x, 0, 3, 0, 0, 0, 0);
        Expect.sentence("leave: STRANGER");
        int writes = x.writes();
        Expect.same("of an empty group", STRANGER, x.leave(0, 1));
        is("as it was", x, 0, 3, 0, 0, 0, 0);
        Expect.same("nothing written", writes, x.writes());
        BatchBroker y = stable(2, 1);
        y.join(0, 0);
        Expect.same("the last one but one", 1, y.leave(0, 0));
        is("1 has not joined", y, 0, 2, 1, 2, 0, 20);
        Expect.same("the last one of a mixing group", 1, y.leave(0, 1));
        is("empty", y, 0, 2, 0, 0, 0, 0);
        Expect.same("one that left", STRANGER, y.leave(0, 1));
    }

    private static void noRoom() {
        Expect.sentence("When there is no room for the note it goes on mixing, with all its members, joined or not, and its "
                + "limit, as it was");
        BatchBroker x = crowded(1);
        x.join(0, 0);
        x.join(0, 1);
        x.join(0, 0);
        for (int i = 0; i < 11; i++) {
            x.join(1, 0);
        }
        Expect.same("thirteen notes in the own log's only block", 13, x.log(1, 3));
        x.join(0, 0);
        x.ticks(10);
        is("1 has not joined", x, 0, 2, 1, 3, 1, 10);
        x.crash(1);
        Expect.same("joins", NONE, x.join(0, 1));
        is("all have joined, no room", x, 0, 2, 1, 3, 3, 10);
        x.join(0, 2);
        x.leave(0, 1);
        is("it is tried with leave, no room", x, 0, 2, 1, 5, 5, 10);
        x.ticks(20);
        is("the limit is over", x, 0, 2, 1, 5, 5, 0);
        Expect.same("nothing was written", 0, x.isDown() ? 1 : 0);
        Expect.same("MIXED", MIXED, x.commit(0, 0, 2, 0, 0));
        Expect.same("heard", 0, x.beat(0, 0, 2));
        x.crash(NONE);
        Expect.sentence("it is tried again with each tick, join and leave");
        x.retain(0, 27 * 1024);
        is("not by others", x, 0, 2, 1, 5, 5, 0);
        x.ticks(1);
        is("by a tick", x, 0, 3, 2, 5, 5, 0);
        BatchBroker y = crowded(0);
        y.join(0, 0);
        y.retain(0, 0);
        Expect.same("by a join", 1, y.join(0, 0));
        BatchBroker z = crowded(0);
        z.join(0, 0);
        z.join(0, 1);
        z.retain(0, 0);
        Expect.same("by a leave", 1, z.leave(0, 1));
        is("by a leave", z, 0, 1, 2, 1, 1, 0);
        Expect.same("without any the group is empty, room or not", 1, crowdedLeave());
    }

    private static int crowdedLeave() {
        BatchBroker x = crowded(0);
        x.join(0, 0);
        int answer = x.leave(0, 0);
        is("empty", x, 0, 0, 0, 0, 0, 0);
        return answer;
    }

    // ---- ticks

    private static void silent() {
        Expect.sentence("in a stable one all members that were heard 30 ticks ago or more are no members any more; if there "
                + "were such, it is empty (when none is left), or mixes");
        BatchBroker x = stable(3, 1);
        x.ticks(1);
        x.beat(0, 1, 2);
        x.ticks(28);
        is("29 ticks ago", x, 0, 2, 2, 7, 7, 0);
        x.ticks(1);
        is("30 ticks ago, and 29", x, 0, 2, 1, 2, 0, 20);
        Expect.same("the first of them is left in another", 1, leftAlone());
        x.ticks(19);
        is("in one that mixes the silent ones stay", x, 0, 2, 1, 2, 0, 1);
        x.ticks(1);
        is("to its limit", x, 0, 2, 0, 0, 0, 0);
        BatchBroker y = stable(2, 1);
        y.ticks(30);
        is("when none is left", y, 0, 2, 0, 0, 0, 0);
        Expect.sentence("a commit, and a beat, is heard; one that is refused is not");
        BatchBroker z = stable(5, 5);
        z.ticks(29);
        Expect.same("0 beats", 0, z.beat(0, 0, 2));
        Expect.same("1 commits", 0, z.commit(0, 1, 2, 1, 0));
        Expect.same("2 tells an old generation", OLD, z.beat(0, 2, 1));
        Expect.same("3 commits what is not its own", FOREIGN, z.commit(0, 3, 2, 1, 0));
        Expect.same("4 commits what is not there", OUTSIDE, z.commit(0, 4, 2, 4, 1));
        z.ticks(1);
        is("two were heard", z, 0, 2, 1, 3, 0, 20);
        Expect.sentence("group by group");
        BatchBroker w = new BatchBroker(1, 1, 32);
        int[] groups = {6, 3, 4};
        for (int g : groups) {
            w.join(g, 0);
            w.join(g, 1);
        }
        w.ticks(20);
        Expect.same("three notes at the limit", 6, w.log(1, 3));
        w.fetch(1, 3, 32768);
        int[] order = {3, 4, 6};
        for (int k = 0; k < 3; k++) {
            Expect.same("group of note " + k, order[k] * 256 + 255, w.taken(k, 3));
            Expect.same("its time", 20, w.taken(k, 1));
        }
    }

    /** Members 0 and 1, of which 0 alone is heard again: the members that are left. */
    private static int leftAlone() {
        BatchBroker x = stable(2, 1);
        x.ticks(29);
        x.beat(0, 0, 2);
        x.ticks(1);
        return x.group(0, 2);
    }

    // ---- shares and commits

    private static void shares() {
        Expect.sentence("SHARES: log l is of the member that stands at l modulo (how many they are) among them, from the "
                + "least on; 0 if the group is not stable, or it is no member");
        int[][] cases = {{1, 1, 1}, {1, 2, 1, 0}, {2, 3, 1, 2, 0}, {8, 1, 255}, {8, 3, 0b01001001, 0b10010010, 0b00100100},
            {8, 8, 1, 2, 4, 8, 16, 32, 64, 128}, {7, 8, 1, 2, 4, 8, 16, 32, 64, 0}};
        for (int[] c : cases) {
            BatchBroker x = stable(c[1], c[0]);
            for (int m = 0; m < c[1]; m++) {
                Expect.same("logs " + c[0] + ", members " + c[1] + ", member " + m, c[2 + m], x.share(0, m));
            }
            if (c[1] < 8) {
                Expect.same("no member", 0, x.share(0, 7));
                x.join(0, 7);
                Expect.same("mixing", 0, x.share(0, 0));
                Expect.same("mixing, one that has joined", 0, x.share(0, 7));
            }
        }
        Expect.same("an empty group", 0, new BatchBroker(1, 1, 32).share(0, 0));
    }

    private static void commits() {
        Expect.sentence("A COMMIT, in this order: STRANGER, OLD, MIXED, FOREIGN, OUTSIDE, FULL");
        BatchBroker x = stable(2, 2);
        Expect.same("all of them", STRANGER, x.commit(0, 2, 9, 1, 9));
        Expect.same("all but STRANGER", OLD, x.commit(0, 0, 9, 1, 9));
        Expect.same("FOREIGN and OUTSIDE", FOREIGN, x.commit(0, 0, 2, 1, 9));
        Expect.same("OUTSIDE", OUTSIDE, x.commit(0, 0, 2, 0, 9));
        x.join(0, 1);
        Expect.same("OLD, while it is mixing", OLD, x.commit(0, 0, 3, 1, 9));
        Expect.same("MIXED, FOREIGN and OUTSIDE", MIXED, x.commit(0, 0, 2, 1, 9));
        Expect.same("MIXED, of one that has joined", MIXED, x.commit(0, 1, 2, 1, 0));
        Expect.sentence("OLD: the generation told is not the group's");
        BatchBroker y = stable(1, 1);
        int[] told = {0, 2, -1, Integer.MIN_VALUE, Integer.MAX_VALUE};
        for (int generation : told) {
            Expect.same("commit with " + generation, OLD, y.commit(0, 0, generation, 0, 0));
            Expect.same("beat with " + generation, OLD, y.beat(0, 0, generation));
        }
        Expect.sentence("OUTSIDE: the offset is not START .. END of the log");
        Send.exact(y, 0, 1000);
        Send.exact(y, 0, 1000);
        y.retain(0, 0);
        long[][] offsets = {{3, OUTSIDE}, {4, 0}, {8, 0}, {9, OUTSIDE}, {-1, OUTSIDE}, {Long.MIN_VALUE, OUTSIDE},
            {Long.MAX_VALUE, OUTSIDE}};
        for (long[] o : offsets) {
            Expect.same("offset " + o[0], o[1], y.commit(0, 0, 1, 0, o[0]));
        }
        Expect.same("three notes", 3, y.log(1, 3));
        Expect.sentence("What a group COMMITTED for a log is the value of the latest note with that key, NONE for nothing");
        Expect.same("the latest", 8, y.committed(0, 0));
        y.commit(0, 0, 1, 0, 4);
        Expect.same("the latest, which is less", 4, y.committed(0, 0));
        Expect.same("of another group", NONE, y.committed(1, 0));
        y.retain(0, 0);
        Send.exact(y, 0, 1000);
        y.retain(0, 0);
        Expect.same("START is beyond it", 8, y.log(0, 0));
        Expect.same("it stays", 4, y.committed(0, 0));
        y.leave(0, 0);
        Expect.same("without members", 4, y.committed(0, 0));
        BatchBroker z = new BatchBroker(1, 1, 32);
        z.join(5, 0);
        Expect.same("a generation is no commit", NONE, z.committed(5, 0));
        z.commit(5, 0, 1, 0, 0);
        Expect.same("0 is one", 0, z.committed(5, 0));
    }

    private static void fullCommit() {
        Expect.sentence("commit: FULL; nothing was changed or written");
        BatchBroker x = crowded(1);
        x.join(0, 0);
        for (int i = 0; i < 12; i++) {
            x.commit(0, 0, 1, 0, i);
        }
        x.crash(1);
        String before = Seen.all(x);
        Expect.same("full", FULL, x.commit(0, 0, 1, 0, 12));
        Expect.same("as it was", before, Seen.all(x));
        Expect.same("OUTSIDE is ahead of it", OUTSIDE, x.commit(0, 0, 1, 0, 999));
    }

    private static void notesAcrossBlocks() {
        Expect.sentence("A note is a batch of one record; The blocks are written in which its bytes lie");
        BatchBroker x = new BatchBroker(1, 2, 32);
        x.ticks(3);
        Send.exact(x, 0, 1000);
        x.join(0, 0);
        // 78 bytes each: the fourteenth lies at 1014, in two blocks, the twenty-seventh has no room
        for (int i = 1; i < 26; i++) {
            int before = x.writes();
            Expect.same("commit " + i, 0, x.commit(0, 0, 1, 0, i % 5));
            Expect.same("blocks of note " + i, i == 13 ? 3 : 2, x.writes() - before);
        }
        Expect.same("one segment", 1, x.log(1, 2));
        x.commit(0, 0, 1, 0, 2);
        Expect.same("two segments", 2, x.log(1, 2));
        x.fetch(1, 13, 0);
        byte[] due = Model.batchBytes(13, 0, 3, 3, NONE, NONE, NONE, 1,
                Model.recordBytes(0, 0, new byte[] {0, 0}, new byte[] {0, 0, 0, 0, 0, 0, 0, 3}));
        Expect.same("its bytes", Arrays.toString(due), Arrays.toString(Send.fetched(x, 78)));
        Expect.same("audit", 0, x.audit());
        Expect.same("behind recovery", 28, x.recover());
        Expect.same("committed", 2, x.committed(0, 0));
        for (int n = 1; n <= 4; n++) {
            BatchBroker y = new BatchBroker(1, 2, 32);
            Send.exact(y, 0, 1000);
            y.join(0, 0);
            for (int i = 1; i < 13; i++) {
                y.commit(0, 0, 1, 0, 1);
            }
            y.crash(n);
            Expect.same("cut at " + n, n < 4 ? CUT : 0, y.commit(0, 0, 1, 0, 4));
            y.recover();
            Expect.same("there just if its head was written", n < 3 ? 1 : 4, y.committed(0, 0));
            Expect.same("audit", 0, y.audit());
        }
    }

    private static void beats() {
        Expect.sentence("beat: 0, or 1 if the group is mixing and it has not joined; STRANGER, or OLD (it is not heard "
                + "then; a group that is mixing has the generation of before)");
        BatchBroker x = stable(2, 1);
        Expect.same("stable", 0, x.beat(0, 1, 2));
        Expect.same("no member, and an old generation", STRANGER, x.beat(0, 2, 1));
        x.join(0, 0);
        Expect.same("mixing, joined", 0, x.beat(0, 0, 2));
        Expect.same("mixing, not joined", 1, x.beat(0, 1, 2));
        Expect.same("mixing, the next generation", OLD, x.beat(0, 1, 3));
        Expect.same("no member", STRANGER, x.beat(0, 2, 2));
        Expect.same("an empty group", STRANGER, x.beat(1, 0, 0));
        BatchBroker y = crowded(0);
        y.join(0, 0);
        Expect.same("mixing from the beginning, with generation 0", 0, y.beat(0, 0, 0));
        Expect.same("of a group without members behind recovery", STRANGER, recoveredBeat());
    }

    private static int recoveredBeat() {
        BatchBroker x = stable(1, 1);
        x.recover();
        return x.beat(0, 0, 1);
    }

    private static void behindRecovery() {
        Expect.sentence("its generation behind recovery likewise (0 without). Behind recovery all groups are empty");
        BatchBroker x = stable(2, 1);
        x.join(1, 0);
        x.join(1, 1);
        x.recover();
        is("a stable one", x, 0, 2, 0, 0, 0, 0);
        is("a mixing one", x, 1, 1, 0, 0, 0, 0);
        is("one without a note", x, 2, 0, 0, 0, 0, 0);
        Expect.same("goes on", 3, x.join(0, 0));
        Expect.same("begins", 1, x.join(2, 0));
    }

    private static void cuts() {
        Expect.sentence("join, leave: CUT; it is there behind recovery just if its head was written");
        for (int n = 1; n <= 3; n++) {
            BatchBroker x = stable(1, 1);
            x.crash(n);
            Expect.same("join", n < 3 ? CUT : 2, x.join(0, 0));
            x.recover();
            is("behind recovery", x, 0, n < 2 ? 1 : 2, 0, 0, 0, 0);
            BatchBroker y = stable(2, 1);
            y.join(0, 0);
            y.crash(n);
            Expect.same("leave", n < 3 ? CUT : 1, y.leave(0, 1));
            y.recover();
            is("behind recovery", y, 0, n < 2 ? 2 : 3, 0, 0, 0, 0);
        }
    }

    public static void main(String[] args) {
        numbers();
        mixing();
        joining();
        leaving();
        noRoom();
        silent();
        shares();
        commits();
        fullCommit();
        notesAcrossBlocks();
        beats();
        behindRecovery();
        cuts();
        Expect.end("GroupEdgeTest");
    }
}
