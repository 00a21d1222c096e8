import java.io.ByteArrayOutputStream;
import java.util.ArrayList;
import java.util.Arrays;
import java.util.List;
import java.util.TreeMap;
import java.util.TreeSet;
import java.util.zip.CRC32C;

/**
 * A second broker, made for comparison: it holds batches as objects in lists, and takes the blocks that a call
 * writes as one sum, where the class itself holds bytes and writes block by block.
 */
public final class Model {
    static final int NONE = -1, FULL = -2, CUT = -3, FAULT = -4, LARGE = -5, FENCED = -6, GAP = -7, STRANGER = -8,
            OLD = -9, MIXED = -10, FOREIGN = -11, OUTSIDE = -12;

    /** A record; its time is whole, its offset is told from the BASE on. */
    static final class Rec {
        long time;
        long after;
        byte[] key;
        byte[] value;
    }

    static final class Batch implements Cloneable {
        long base;
        int last;
        long first;
        long greatest;
        long producer;
        int epoch;
        int sequence;
        List<Rec> recs = new ArrayList<>();

        byte[] bytes() {
            ByteArrayOutputStream body = new ByteArrayOutputStream();
            for (Rec r : recs) {
                body.writeBytes(recordBytes(r.time - first, r.after, r.key, r.value));
            }
            return batchBytes(base, last, first, greatest, producer, epoch, sequence, recs.size(),
                    body.toByteArray());
        }

        int size() {
            return bytes().length;
        }

        long reach() {
            return base + (recs.isEmpty() ? last : recs.get(recs.size() - 1).after);
        }
    }

    static final class Segment {
        int block;
        List<Batch> batches = new ArrayList<>();

        int size() {
            return batches.stream().mapToInt(Batch::size).sum();
        }
    }

    static final class Log {
        long start;
        long end;
        List<Segment> segments = new ArrayList<>();

        List<Batch> batches() {
            List<Batch> all = new ArrayList<>();
            segments.forEach(s -> all.addAll(s.batches));
            return all;
        }

        List<Batch> known(long producer) {
            List<Batch> mine = new ArrayList<>();
            for (Batch b : batches()) {
                if (producer != -1 && b.producer == producer) {
                    mine.add(b);
                }
            }
            return mine.subList(Math.max(0, mine.size() - 5), mine.size());
        }
    }

    static final class Group {
        int generation;
        int state;
        int limit;
        TreeMap<Integer, Integer> heard = new TreeMap<>();
        TreeSet<Integer> joined = new TreeSet<>();
    }

    static byte[] varint(long v) {
        ByteArrayOutputStream out = new ByteArrayOutputStream();
        long z = v >= 0 ? 2 * v : -2 * v - 1;
        while (z < 0 || z > 127) {
            out.write((int) (z & 127) | 128);
            z >>>= 7;
        }
        out.write((int) z);
        return out.toByteArray();
    }

    static byte[] recordBytes(long time, long offset, byte[] key, byte[] value) {
        ByteArrayOutputStream body = new ByteArrayOutputStream();
        body.write(0);
        body.writeBytes(varint(time));
        body.writeBytes(varint(offset));
        for (byte[] text : new byte[][] {key, value}) {
            body.writeBytes(varint(text == null ? -1 : text.length));
            if (text != null) {
                body.writeBytes(text);
            }
        }
        body.write(0);
        ByteArrayOutputStream all = new ByteArrayOutputStream();
        all.writeBytes(varint(body.size()));
        all.writeBytes(body.toByteArray());
        return all.toByteArray();
    }

    static byte[] batchBytes(long base, int last, long first, long greatest, long producer, int epoch, int sequence,
            int count, byte[] body) {
        java.nio.ByteBuffer b = java.nio.ByteBuffer.allocate(61 + body.length);
        b.putLong(base).putInt(49 + body.length).putInt(0).put((byte) 2).putInt(0).putShort((short) 0).putInt(last);
        b.putLong(first).putLong(greatest).putLong(producer).putShort((short) epoch).putInt(sequence).putInt(count);
        b.put(body);
        return checksummed(b.array());
    }

    static byte[] checksummed(byte[] batch) {
        java.nio.ByteBuffer.wrap(batch).putInt(17, checksum(batch));
        return batch;
    }

    static int checksum(byte[] batch) {
        CRC32C crc = new CRC32C();
        crc.update(batch, 21, batch.length - 21);
        return (int) crc.getValue();
    }

    final int n;
    final int segmentBlocks;
    final int blocks;
    byte[] tape = new byte[0];
    List<Rec> draft = new ArrayList<>();
    byte[] fetched = new byte[0];
    List<Object[]> takenRecs = new ArrayList<>();
    Log[] logs;
    Group[] groups = new Group[8];
    long next;
    long reserved;
    int now;
    int writes;
    int left = NONE;
    boolean down;

    public Model(int logs, int segment, int blocks) {
        n = clamp(logs, 1, 8);
        segmentBlocks = clamp(segment, 1, 16);
        this.blocks = clamp(blocks, 32, 256);
        this.logs = new Log[n + 1];
        for (int i = 0; i <= n; i++) {
            this.logs[i] = new Log();
        }
        for (int g = 0; g < 8; g++) {
            groups[g] = new Group();
        }
    }

    private static int clamp(int x, int least, int most) {
        return x < least ? least : x > most ? most : x;
    }

    private static void arg(boolean fine) {
        if (!fine) {
            throw new IllegalArgumentException();
        }
    }

    private static void state(boolean fine) {
        if (!fine) {
            throw new IllegalStateException();
        }
    }

    // ---- the tape and the draft

    private void addToTape(byte[] more) {
        state(tape.length + more.length <= 16384);
        int at = tape.length;
        tape = Arrays.copyOf(tape, at + more.length);
        System.arraycopy(more, 0, tape, at, more.length);
    }

    public int feed(int a, int b, int c, int d, int e) {
        addToTape(java.nio.ByteBuffer.allocate(20).putInt(a).putInt(b).putInt(c).putInt(d).putInt(e).array());
        return tape.length;
    }

    public int trim(int count) {
        arg(count >= 0 && count <= tape.length);
        tape = Arrays.copyOf(tape, tape.length - count);
        return tape.length;
    }

    public int spoil(int i, int x) {
        arg(i >= 0 && i < tape.length && x >= 0 && x < 256);
        tape[i] = (byte) (tape[i] ^ x);
        return Byte.toUnsignedInt(tape[i]);
    }

    private Batch draftBatch(List<Rec> recs, long time) {
        Batch b = new Batch();
        b.first = time;
        b.last = recs.size() - 1;
        for (int i = 0; i < recs.size(); i++) {
            Rec r = new Rec();
            r.time = time + recs.get(i).time;
            r.after = i;
            r.key = recs.get(i).key;
            r.value = recs.get(i).value;
            b.recs.add(r);
            b.greatest = Math.max(b.greatest, r.time);
        }
        return b;
    }

    public int record(int count, long key, int keyBytes, long value, int valueBytes, int later) {
        arg(count >= 1 && count <= 100 && keyBytes >= -1 && keyBytes <= 8 && valueBytes >= -1 && valueBytes <= 300
                && later >= 0 && later <= 1000000);
        List<Rec> more = new ArrayList<>(draft);
        for (int i = 0; i < count; i++) {
            Rec r = new Rec();
            r.time = later + i;
            if (keyBytes >= 0) {
                r.key = new byte[keyBytes];
                for (int j = 0; j < keyBytes; j++) {
                    r.key[keyBytes - 1 - j] = (byte) ((key + i) >> 8 * j);
                }
            }
            if (valueBytes >= 0) {
                r.value = new byte[valueBytes];
                for (int j = 0; j < valueBytes; j++) {
                    r.value[j] = (byte) ((value + i) >> 8 * (j % 8));
                }
            }
            more.add(r);
        }
        state(more.size() <= 1000 && draftBatch(more, 0).size() - 61 <= 16000);
        draft = more;
        return draft.size();
    }

    public int seal(long producer, int epoch, int sequence, long time) {
        arg(time >= 0 && time <= 1L << 49);
        Batch b = draftBatch(draft, time);
        b.producer = producer;
        b.epoch = epoch;
        b.sequence = sequence;
        addToTape(b.bytes());
        draft = new ArrayList<>();
        return tape.length;
    }

    /** The tape as a batch, or its fault as {kind, place}. */
    private Object parse() {
        if (tape.length < 61) {
            return new int[] {1, 8};
        }
        java.nio.ByteBuffer b = java.nio.ByteBuffer.wrap(tape);
        if (b.getInt(8) != tape.length - 12) {
            return new int[] {1, 8};
        }
        Batch batch = new Batch();
        batch.last = b.getInt(23);
        batch.first = b.getLong(27);
        batch.greatest = b.getLong(35);
        batch.producer = b.getLong(43);
        batch.epoch = b.getShort(51);
        batch.sequence = b.getInt(53);
        int count = b.getInt(57);
        long top = 1L << 50;
        boolean none = batch.producer == -1;
        int[] places = {0, 12, 16, 21, 23, 27, 35, 43, 51, 53, 57};
        boolean[] right = {b.getLong(0) == 0, b.getInt(12) == 0, b.get(16) == 2, b.getShort(21) == 0,
            (long) batch.last + 1 == count, batch.first >= 0 && batch.first <= top,
            batch.greatest >= 0 && batch.greatest <= top, batch.producer >= -1 && batch.producer <= top,
            none ? batch.epoch == -1 : batch.epoch >= 0, none ? batch.sequence == -1 : batch.sequence >= 0,
            count >= 1 && count <= 1000};
        for (int i = 0; i < places.length; i++) {
            if (!right[i]) {
                return new int[] {2, places[i]};
            }
        }
        if (b.getInt(17) != checksum(tape)) {
            return new int[] {3, 17};
        }
        at = 61;
        long greatest = -1;
        for (int k = 0; k < count; k++) {
            int from = at;
            Rec r = parseRecord(batch.first);
            if (r == null || r.after != k) {
                return new int[] {4, from};
            }
            greatest = Math.max(greatest, r.time);
            batch.recs.add(r);
        }
        if (at != tape.length) {
            return new int[] {4, at};
        }
        return greatest == batch.greatest ? batch : new int[] {5, 35};
    }

    private int at;

    private static final class Bad extends RuntimeException {
        private static final long serialVersionUID = 1;
    }

    private long parseVarint() {
        java.math.BigInteger z = java.math.BigInteger.ZERO;
        int from = at;
        int piece;
        do {
            piece = parseByte();
            z = z.add(java.math.BigInteger.valueOf(piece & 127).shiftLeft(7 * (at - from - 1)));
        } while (piece >= 128 && at - from < 11);
        if (z.bitLength() > 64) {
            throw new Bad();
        }
        long v = z.testBit(0) ? z.add(java.math.BigInteger.ONE).shiftRight(1).negate().longValue()
                : z.shiftRight(1).longValue();
        if (!Arrays.equals(varint(v), Arrays.copyOfRange(tape, from, at))) {
            throw new Bad();
        }
        return v;
    }

    private int parseByte() {
        if (at >= tape.length) {
            throw new Bad();
        }
        return tape[at++] & 255;
    }

    private byte[] parseText() {
        long count = parseVarint();
        if (count == -1) {
            return null;
        }
        if (count < 0 || count > tape.length - at) {
            throw new Bad();
        }
        at += (int) count;
        return Arrays.copyOfRange(tape, at - (int) count, at);
    }

    private Rec parseRecord(long first) {
        try {
            Rec r = new Rec();
            long length = parseVarint();
            int from = at;
            boolean zeros = parseByte() == 0;
            java.math.BigInteger time = java.math.BigInteger.valueOf(first)
                    .add(java.math.BigInteger.valueOf(parseVarint()));
            r.after = parseVarint();
            r.key = parseText();
            r.value = parseText();
            zeros &= parseByte() == 0;
            if (!zeros || at - from != length || time.signum() < 0
                    || time.compareTo(java.math.BigInteger.ONE.shiftLeft(50)) > 0) {
                return null;
            }
            r.time = time.longValue();
            return r;
        } catch (Bad e) {
            return null;
        }
    }

    public int fault(int what) {
        arg(what == 0 || what == 1);
        Object found = parse();
        if (found instanceof Batch) {
            return what == 0 ? 0 : NONE;
        }
        return ((int[]) found)[what];
    }

    // ---- power

    private boolean cut;

    /** Spends the blocks that a call writes: whether the last one was written. */
    private boolean spend(int count) {
        cut = left != NONE && left <= count;
        if (!cut) {
            writes += count;
            left -= left == NONE ? 0 : count;
            return true;
        }
        writes += left;
        boolean all = left == count;
        left = 0;
        down = true;
        return all;
    }

    // ---- producers

    public long producer() {
        state(!down);
        if (next == reserved) {
            if (spend(1)) {
                reserved += 100;
            }
            if (cut) {
                return CUT;
            }
        }
        return next++;
    }

    private boolean[] used() {
        boolean[] used = new boolean[blocks];
        Arrays.fill(used, 0, n + 2, true);
        for (Log log : logs) {
            for (Segment s : log.segments) {
                Arrays.fill(used, s.block, s.block + segmentBlocks, true);
            }
        }
        return used;
    }

    private int place(boolean[] used) {
        for (int b = 0; b + segmentBlocks <= blocks; b++) {
            boolean fits = true;
            for (int i = b; i < b + segmentBlocks; i++) {
                fits &= !used[i];
            }
            if (fits) {
                Arrays.fill(used, b, b + segmentBlocks, true);
                return b;
            }
        }
        return NONE;
    }

    private long append(Log log, Batch batch) {
        int size = batch.size();
        Segment open = log.segments.isEmpty() ? null : log.segments.get(log.segments.size() - 1);
        boolean fits = open != null && open.size() + size <= 1024 * segmentBlocks;
        if (!fits) {
            open = new Segment();
            open.block = log.segments.size() == 60 ? NONE : place(used());
            if (open.block == NONE) {
                return FULL;
            }
        }
        int from = open.size();
        int touched = (from + size - 1) / 1024 - from / 1024 + 1;
        if (spend(touched + 1)) {
            batch.base = log.end;
            log.end += batch.recs.size();
            open.batches.add(batch);
            if (!fits) {
                log.segments.add(open);
            }
        }
        return cut ? CUT : batch.base;
    }

    public long produce(int log) {
        arg(log >= 0 && log < n);
        state(!down);
        Object found = parse();
        int size = tape.length;
        tape = new byte[0];
        if (!(found instanceof Batch)) {
            return FAULT;
        }
        Batch batch = (Batch) found;
        if (size > 1024 * segmentBlocks) {
            return LARGE;
        }
        List<Batch> known = logs[log].known(batch.producer);
        if (!known.isEmpty()) {
            Batch latest = known.get(known.size() - 1);
            if (batch.epoch < latest.epoch) {
                return FENCED;
            }
            for (int i = known.size() - 1; i >= 0; i--) {
                Batch b = known.get(i);
                if (b.epoch == batch.epoch && b.sequence == batch.sequence && b.last == batch.last) {
                    return b.base;
                }
            }
            long due = batch.epoch > latest.epoch ? 0 : ((long) latest.sequence + latest.last + 1) % (1L << 31);
            if (batch.sequence != due) {
                return GAP;
            }
        }
        return append(logs[log], batch);
    }

    public long known(int log, long producer, int what) {
        arg(log >= 0 && log <= n && producer >= 0 && what >= 0 && what <= 3);
        state(!down);
        List<Batch> known = logs[log].known(producer);
        if (what == 0) {
            return known.size();
        }
        if (known.isEmpty()) {
            return NONE;
        }
        Batch latest = known.get(known.size() - 1);
        return what == 1 ? latest.epoch
                : what == 2 ? ((long) latest.sequence + latest.last + 1) % (1L << 31) : latest.base;
    }

    // ---- logs

    public long log(int log, int what) {
        arg(log >= 0 && log <= n && what >= 0 && what <= 5);
        state(!down);
        Log l = logs[log];
        switch (what) {
            case 0: return l.start;
            case 1: return l.end;
            case 2: return l.segments.size();
            case 3: return l.batches().size();
            case 4: return l.batches().stream().mapToInt(b -> b.recs.size()).sum();
            default: return l.batches().stream().mapToInt(Batch::size).sum();
        }
    }

    public int fetch(int log, long offset, int most) {
        arg(most >= 0 && most <= 32768 && log >= 0 && log <= n);
        state(!down);
        if (offset < logs[log].start || offset > logs[log].end) {
            return OUTSIDE;
        }
        ByteArrayOutputStream out = new ByteArrayOutputStream();
        takenRecs = new ArrayList<>();
        boolean begun = false;
        for (Batch b : logs[log].batches()) {
            if (!begun && b.reach() < offset) {
                continue;
            }
            if (begun && out.size() + b.size() > most) {
                break;
            }
            begun = true;
            out.writeBytes(b.bytes());
            for (Rec r : b.recs) {
                takenRecs.add(new Object[] {b.base + r.after, r.time, r.key, r.value});
            }
        }
        fetched = out.toByteArray();
        return fetched.length;
    }

    public int byteAt(int i) {
        arg(i >= 0 && i < fetched.length);
        return fetched[i] & 255;
    }

    public long taken(int k, int what) {
        arg(k >= 0 && k < takenRecs.size() && what >= 0 && what <= 5);
        Object[] r = takenRecs.get(k);
        if (what < 2) {
            return (Long) r[what];
        }
        byte[] text = (byte[]) r[what / 2 + 1];
        if (what % 2 == 0) {
            return text == null ? NONE : text.length;
        }
        long v = 0;
        for (int i = 0; text != null && i < text.length && i < 8; i++) {
            v = v * 256 + (text[i] & 255);
        }
        return v;
    }

    public long find(int log, long time) {
        arg(log >= 0 && log <= n);
        state(!down);
        for (Batch b : logs[log].batches()) {
            for (Rec r : b.recs) {
                if (r.time >= time) {
                    return b.base + r.after;
                }
            }
        }
        return NONE;
    }

    public int retain(int log, int bytes) {
        arg(log >= 0 && log < n && bytes >= 0);
        state(!down);
        Log l = logs[log];
        List<Segment> rest = new ArrayList<>(l.segments);
        while (rest.size() > 1 && rest.stream().skip(1).mapToInt(Segment::size).sum() >= bytes) {
            rest.remove(0);
        }
        int gone = l.segments.size() - rest.size();
        if (gone == 0) {
            return 0;
        }
        if (spend(1)) {
            l.segments = rest;
            l.start = l.batches().get(0).base;
        }
        return cut ? CUT : gone;
    }

    private static String text(byte[] key) {
        return new String(key, java.nio.charset.StandardCharsets.ISO_8859_1);
    }

    public int compact(int log) {
        arg(log >= 0 && log <= n);
        state(!down);
        Log l = logs[log];
        TreeMap<String, Long> latest = new TreeMap<>();
        for (Batch b : l.batches()) {
            for (Rec r : b.recs) {
                if (r.key != null) {
                    latest.put(text(r.key), b.base + r.after);
                }
            }
        }
        int goneRecords = 0;
        int goneBatches = 0;
        List<Segment> made = new ArrayList<>();
        boolean[] used = used();
        boolean room = true;
        int blocksTouched = 0;
        for (int s = 0; s < l.segments.size() - 1; s++) {
            for (Batch b : l.segments.get(s).batches) {
                Batch kept = keep(b, latest);
                goneRecords += b.recs.size() - kept.recs.size();
                if (kept.recs.isEmpty() && !l.known(b.producer).contains(b)) {
                    goneBatches++;
                    continue;
                }
                Segment end = made.isEmpty() ? null : made.get(made.size() - 1);
                if (end == null || end.size() + kept.size() > 1024 * segmentBlocks) {
                    end = new Segment();
                    end.block = place(used);
                    room &= end.block != NONE;
                    made.add(end);
                }
                end.batches.add(kept);
            }
        }
        if (goneRecords + goneBatches == 0) {
            return 0;
        }
        if (!room) {
            return FULL;
        }
        for (Segment s : made) {
            blocksTouched += (s.size() + 1023) / 1024;
        }
        if (spend(blocksTouched + 1)) {
            made.add(l.segments.get(l.segments.size() - 1));
            l.segments = made;
        }
        return cut ? CUT : goneRecords;
    }

    private Batch keep(Batch b, TreeMap<String, Long> latest) {
        Batch kept = new Batch();
        kept.base = b.base;
        kept.last = b.last;
        kept.first = b.first;
        kept.producer = b.producer;
        kept.epoch = b.epoch;
        kept.sequence = b.sequence;
        kept.greatest = b.greatest;
        long greatest = -1;
        for (Rec r : b.recs) {
            boolean goes = r.key != null && (latest.get(text(r.key)) != b.base + r.after
                    || r.value == null && r.time <= now - 1000);
            if (!goes) {
                kept.recs.add(r);
                greatest = Math.max(greatest, r.time);
            }
        }
        if (greatest >= 0) {
            kept.greatest = greatest;
        }
        return kept;
    }

    // ---- groups

    private static void eight(int... numbers) {
        for (int x : numbers) {
            arg(x >= 0 && x < 8);
        }
    }

    private long note(int group, int about, long value) {
        Batch b = new Batch();
        b.producer = b.epoch = b.sequence = -1;
        b.first = b.greatest = now;
        Rec r = new Rec();
        r.time = now;
        r.key = new byte[] {(byte) group, (byte) about};
        r.value = java.nio.ByteBuffer.allocate(8).putLong(value).array();
        b.recs.add(r);
        return append(logs[n], b);
    }

    private long latestNote(int group, int about) {
        long value = NONE;
        for (Batch b : logs[n].batches()) {
            for (Rec r : b.recs) {
                if (Arrays.equals(r.key, new byte[] {(byte) group, (byte) about})) {
                    value = java.nio.ByteBuffer.wrap(r.value).getLong();
                }
            }
        }
        return value;
    }

    private void mix(Group g) {
        g.state = 1;
        g.joined.clear();
        g.limit = now + 20;
    }

    private void settle(int group) {
        Group g = groups[group];
        if (g.state != 1 || !g.joined.containsAll(g.heard.keySet()) && now < g.limit) {
            return;
        }
        if (g.joined.isEmpty()) {
            g.heard.clear();
            g.state = 0;
            return;
        }
        if (note(group, 255, g.generation + 1) >= 0) {
            g.generation++;
            g.state = 2;
            g.heard.keySet().retainAll(g.joined);
            g.heard.replaceAll((m, t) -> now);
        }
    }

    public int join(int group, int member) {
        eight(group, member);
        state(!down);
        Group g = groups[group];
        if (g.state != 1) {
            mix(g);
        }
        g.heard.put(member, now);
        g.joined.add(member);
        settle(group);
        return down ? CUT : g.state == 2 ? g.generation : NONE;
    }

    public int leave(int group, int member) {
        eight(group, member);
        state(!down);
        Group g = groups[group];
        if (!g.heard.containsKey(member)) {
            return STRANGER;
        }
        g.heard.remove(member);
        g.joined.remove(member);
        if (g.heard.isEmpty()) {
            g.state = 0;
        }
        if (g.state == 2) {
            mix(g);
        }
        settle(group);
        return down ? CUT : 1;
    }

    public int beat(int group, int member, int generation) {
        eight(group, member);
        state(!down);
        Group g = groups[group];
        if (!g.heard.containsKey(member)) {
            return STRANGER;
        }
        if (generation != g.generation) {
            return OLD;
        }
        g.heard.put(member, now);
        return g.state == 1 && !g.joined.contains(member) ? 1 : 0;
    }

    public int commit(int group, int member, int generation, int log, long offset) {
        eight(group, member);
        arg(log >= 0 && log < n);
        state(!down);
        Group g = groups[group];
        if (!g.heard.containsKey(member)) {
            return STRANGER;
        }
        if (generation != g.generation) {
            return OLD;
        }
        if (g.state != 2) {
            return MIXED;
        }
        if ((share(group, member) & 1 << log) == 0) {
            return FOREIGN;
        }
        if (offset < logs[log].start || offset > logs[log].end) {
            return OUTSIDE;
        }
        long answer = note(group, log, offset);
        if (answer < 0) {
            return (int) answer;
        }
        g.heard.put(member, now);
        return 0;
    }

    public long committed(int group, int log) {
        eight(group);
        arg(log >= 0 && log < n);
        state(!down);
        return latestNote(group, log);
    }

    private static int together(Iterable<Integer> numbers) {
        int all = 0;
        for (int x : numbers) {
            all += 1 << x;
        }
        return all;
    }

    public int group(int group, int what) {
        eight(group);
        arg(what >= 0 && what <= 4);
        state(!down);
        Group g = groups[group];
        switch (what) {
            case 0: return g.generation;
            case 1: return g.state;
            case 2: return together(g.heard.keySet());
            case 3: return g.state == 1 ? together(g.joined) : together(g.heard.keySet());
            default: return g.state == 1 && g.limit > now ? g.limit - now : 0;
        }
    }

    public int share(int group, int member) {
        eight(group, member);
        state(!down);
        Group g = groups[group];
        if (g.state != 2) {
            return 0;
        }
        List<Integer> members = new ArrayList<>(g.heard.keySet());
        int all = 0;
        for (int l = 0; l < n; l++) {
            if (members.get(l % members.size()) == member) {
                all += 1 << l;
            }
        }
        return all;
    }

    // ---- time and power

    public int ticks(int count) {
        arg(count >= 1 && count <= 200);
        state(!down && now + count <= 100000);
        for (int i = 0; i < count && !down; i++) {
            now++;
            for (int group = 0; group < 8 && !down; group++) {
                Group g = groups[group];
                if (g.state == 2) {
                    int before = g.heard.size();
                    g.heard.values().removeIf(t -> now - t >= 30);
                    if (g.heard.isEmpty()) {
                        g.state = 0;
                    } else if (g.heard.size() < before) {
                        mix(g);
                    }
                }
                settle(group);
            }
        }
        return down ? CUT : now;
    }

    public int time() {
        return now;
    }

    public void crash(int count) {
        arg(count >= -1 && count <= 1000);
        state(!down);
        left = count;
        down = count == 0;
    }

    public int recover() {
        down = false;
        left = NONE;
        next = reserved;
        int all = 0;
        for (Log l : logs) {
            all += l.batches().size();
        }
        for (int g = 0; g < 8; g++) {
            groups[g] = new Group();
            groups[g].generation = (int) Math.max(0, latestNote(g, 255));
        }
        return all;
    }

    public boolean isDown() {
        return down;
    }

    public int writes() {
        return writes;
    }

    public int free() {
        state(!down);
        int count = 0;
        for (boolean u : used()) {
            count += u ? 0 : 1;
        }
        return count;
    }

    public int audit() {
        state(!down);
        return 0;
    }
}
