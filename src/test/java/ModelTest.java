import java.lang.reflect.InvocationTargetException;
import java.lang.reflect.Method;
import java.nio.ByteBuffer;
import java.util.ArrayList;
import java.util.Arrays;
import java.util.HashMap;
import java.util.List;
import java.util.Map;
import java.util.Random;

/** Long runs of random calls (512 on each object), each answered by the class and by the model alike. */
public final class ModelTest {
    private static final int MOST_CALLS = 512;
    private static final Map<String, Method> OF_BROKER = methods(BatchBroker.class);
    private static final Map<String, Method> OF_MODEL = methods(Model.class);
    private static final Map<String, Integer> ANSWERS = new HashMap<>();
    private static int wrong;

    private final Random random;
    private final BatchBroker broker;
    private final Model model;
    private final List<String> told = new ArrayList<>();
    private int calls;
    private boolean failed;
    /** How much a run is about sending, fetching, cleaning, groups, power, faults. */
    private final int[] weights = new int[6];
    private final int keys;
    private final int oddness;
    /** Whether the disk is nearly full from the first on; whether the run is about groups then. */
    private final boolean crowded;
    private final boolean groupsInCrowd;

    private ModelTest(long seed) {
        random = new Random(seed);
        int logs = pick(1, 1, 2, 2, 3, 8, 0, 9);
        crowded = chance(5);
        groupsInCrowd = crowded && chance(2);
        int segment = groupsInCrowd ? 1 : pick(1, 1, 1, 2, 3, 5, 16, 0, 17);
        int blocks = groupsInCrowd ? 32 : pick(32, 32, 40, 64, 100, 256, 31, 257);
        broker = new BatchBroker(logs, segment, blocks);
        model = new Model(logs, segment, blocks);
        told.add("new BatchBroker(" + logs + ", " + segment + ", " + blocks + ")");
        for (int i = 0; i < weights.length; i++) {
            weights[i] = pick(1, 1, 3, 9);
        }
        weights[4] = pick(0, 1, 1, 3);
        if (groupsInCrowd) {
            Arrays.fill(weights, 1);
            weights[3] = pick(20, 60);
        }
        keys = pick(2, 5, 20, 1000);
        oddness = pick(8, 40, 1000000);
    }

    private static Map<String, Method> methods(Class<?> type) {
        Map<String, Method> all = new HashMap<>();
        for (Method m : type.getDeclaredMethods()) {
            if (java.lang.reflect.Modifier.isPublic(m.getModifiers())) {
                all.put(m.getName(), m);
            }
        }
        return all;
    }

    private int pick(int... numbers) {
        return numbers[random.nextInt(numbers.length)];
    }

    private boolean chance(int oneIn) {
        return random.nextInt(oneIn) == 0;
    }

    private static String invoke(Method method, Object on, Object[] args) {
        try {
            Object answer = method.invoke(on, args);
            return answer instanceof Boolean ? ((Boolean) answer ? "1" : "0") : String.valueOf(answer);
        } catch (InvocationTargetException e) {
            return "throws " + e.getCause().getClass().getSimpleName();
        } catch (IllegalAccessException e) {
            throw new IllegalStateException(e);
        }
    }

    /** Some number that is likely beyond a bound. */
    private Object odd(Class<?> type) {
        long[] numbers = {-13, -2, -1, 0, 1, 2, 5, 6, 7, 8, 9, 100, 101, 200, 201, 255, 256, 300, 301, 1000, 1001,
            16384, 32768, 32769, 1000000, 1000001, Integer.MAX_VALUE, Integer.MIN_VALUE, 1L << 49, (1L << 49) + 1,
            1L << 50, (1L << 50) + 1, Long.MAX_VALUE, Long.MIN_VALUE};
        long number = numbers[random.nextInt(numbers.length)];
        return type == int.class ? (Object) (int) number : (Object) number;
    }

    private long call(String name, long... numbers) {
        Method method = OF_BROKER.get(name);
        Class<?>[] types = method.getParameterTypes();
        Object[] args = new Object[types.length];
        for (int i = 0; i < types.length; i++) {
            args[i] = types[i] == int.class ? (Object) (int) numbers[i] : (Object) numbers[i];
        }
        if (args.length > 0 && chance(oddness)) {
            int i = random.nextInt(args.length);
            args[i] = odd(types[i]);
        }
        if (failed || calls == MOST_CALLS) {
            return 0;
        }
        calls++;
        String got = invoke(method, broker, args);
        String want = invoke(OF_MODEL.get(name), model, args);
        String call = name + Arrays.toString(args);
        told.add(call + " -> " + want);
        boolean isNumber = !want.startsWith("t") && !want.equals("null");
        String kind = name + " " + (!isNumber || want.matches("-[0-9]{1,2}") ? want : "a number");
        ANSWERS.merge(kind, 1, Integer::sum);
        if (!got.equals(want)) {
            failed = true;
            wrong++;
            if (wrong <= 3) {
                System.out.println(String.join("\n", told.subList(Math.max(0, told.size() - 60), told.size())));
                System.out.println(call + " answered " + got + ", due is " + want);
            }
        }
        return isNumber ? Long.parseLong(want) : 0;
    }

    private int someLog() {
        return random.nextInt(model.n + (chance(8) ? 1 : 0));
    }

    private int busyLog() {
        return chance(3) ? someLog() : 0;
    }

    // ---- sending

    private void drafted() {
        int rows = pick(0, 1, 1, 1, 2, 3);
        for (int i = 0; i < rows; i++) {
            int count = pick(1, 1, 2, 4, 9, 100);
            int keyBytes = pick(-1, 0, 1, 1, 1, 2, 8);
            int valueBytes = pick(-1, -1, 0, 1, 8, 20, 60, 300);
            if (count == 100) {
                valueBytes = Math.min(valueBytes, 8);
            }
            call("record", count, random.nextInt(keys), keyBytes, random.nextLong(), valueBytes,
                    pick(0, 0, 5, 70, 1000, 1000000));
        }
    }

    private void send() {
        int log = busyLog();
        if (model.tape.length > 0 && !chance(6)) {
            call("trim", model.tape.length);
        }
        drafted();
        long producer = pick(-1, 0, 0, 1, 2, 3);
        Model.Log target = model.logs[Math.min(log, model.n)];
        List<Model.Batch> known = target.known(producer);
        long epoch = producer < 0 ? -1 : pick(0, 0, 1, 32767);
        long sequence = producer < 0 ? -1 : pick(0, 0, 5, Integer.MAX_VALUE, Integer.MAX_VALUE - 1);
        if (!known.isEmpty()) {
            Model.Batch one = known.get(chance(4) ? random.nextInt(known.size()) : known.size() - 1);
            epoch = one.epoch;
            sequence = ((long) one.sequence + one.last + 1) % (1L << 31);
            int way = random.nextInt(12);
            if (way == 0) {
                epoch++;
                sequence = pick(0, 0, 1);
            } else if (way == 1) {
                epoch--;
            } else if (way == 2) {
                sequence++;
            } else if (way == 3) {
                sequence = one.sequence;
            }
        }
        call("seal", producer, epoch, sequence, pick(0, 0, 1, 50, model.now, 1200, 100000));
        call("produce", log);
        if (chance(6)) {
            sendAgain(log);
        }
    }

    /** A batch with as many records as one that the log knows, so that it counts as the same. */
    private void sendAgain(int log) {
        List<Model.Batch> all = model.logs[log].batches();
        if (all.isEmpty()) {
            return;
        }
        Model.Batch one = all.get(Math.max(0, all.size() - 1 - random.nextInt(12)));
        for (int left = one.last + 1; left > 0; left -= 100) {
            call("record", Math.min(left, 100), 1, 1, 1, 1, 0);
        }
        call("seal", one.producer, one.epoch, one.sequence, 7);
        call("produce", log);
    }

    // ---- faults

    private void feedRow(byte[] row) {
        ByteBuffer b = ByteBuffer.wrap(Arrays.copyOf(row, (row.length + 19) / 20 * 20));
        while (b.hasRemaining()) {
            call("feed", b.getInt(), b.getInt(), b.getInt(), b.getInt(), b.getInt());
        }
        call("trim", (20 - row.length % 20) % 20);
    }

    private void spoilTape() {
        if (model.tape.length == 0) {
            return;
        }
        int limit = chance(2) ? model.tape.length : Math.min(model.tape.length, 61);
        call("spoil", random.nextInt(limit), 1 << random.nextInt(8));
        if (chance(2) && model.tape.length >= 61) {
            int due = Model.checksum(model.tape) ^ ByteBuffer.wrap(model.tape).getInt(17);
            for (int i = 0; i < 4; i++) {
                call("spoil", 17 + i, due >> 24 - 8 * i & 255);
            }
        }
    }

    private void handmade() {
        int count = pick(1, 2, 3);
        long first = pick(0, 10, 1000);
        long greatest = -1;
        java.io.ByteArrayOutputStream body = new java.io.ByteArrayOutputStream();
        for (int i = 0; i < count; i++) {
            long after = chance(8) ? random.nextLong() : pick(0, -5, -(int) first, 3, 200);
            greatest = Math.max(greatest, first + after);
            byte[] key = chance(3) ? null : new byte[] {(byte) random.nextInt(keys)};
            byte[] value = chance(3) ? null : new byte[pick(0, 1, 9)];
            body.writeBytes(Model.recordBytes(after, chance(12) ? pick(0, 1, 2, -1) : i, key, value));
        }
        feedRow(Model.batchBytes(0, count - 1, first, Math.max(greatest, 0), -1, -1, -1, count, body.toByteArray()));
    }

    private void faults() {
        switch (random.nextInt(5)) {
            case 0:
                call("feed", random.nextInt(), 0, -1, 1 << 24, random.nextInt());
                break;
            case 1:
                handmade();
                break;
            case 2:
                drafted();
                call("seal", pick(-2, -1, 0, 3), pick(-1, 0, 1, 40000), pick(-1, 0, 9), pick(0, 7));
                break;
            case 3:
                call("trim", random.nextInt(3));
                break;
            default:
                break;
        }
        if (chance(2)) {
            spoilTape();
        }
        call("fault", 0);
        call("fault", 1);
        if (chance(2)) {
            call("produce", busyLog());
        } else if (chance(2)) {
            call("trim", model.tape.length);
        }
    }

    // ---- reading

    private void read() {
        int log = someLog();
        Model.Log l = model.logs[log];
        switch (random.nextInt(6)) {
            case 0:
                call("log", log, random.nextInt(6));
                call("log", log, random.nextInt(6));
                break;
            case 1:
                call("known", log, pick(0, 0, 1, 2, 3), random.nextInt(4));
                break;
            case 2:
                call("find", log, pick(0, 1, 55, 120, 1000, 1100, 1250, 100100, 2000000));
                break;
            case 3:
                call("audit");
                call("free");
                call("writes");
                break;
            default:
                long offset = l.start + (long) (random.nextDouble() * (l.end - l.start + 1));
                call("fetch", log, chance(10) ? pick((int) l.start - 1, (int) l.end + 1) : offset,
                        pick(0, 100, 500, 2000, 32768));
                lookAtFetched();
        }
    }

    private void lookAtFetched() {
        int length = model.fetched.length;
        int looks = length == 0 ? 1 : 4;
        for (int i = 0; i < looks; i++) {
            call("taken", random.nextInt(model.takenRecs.size() + (chance(4) ? 1 : 0) + 1) - (chance(20) ? 0 : 1),
                    random.nextInt(6));
            call("byteAt", random.nextInt((chance(2) ? Math.min(length, 61) : length) + 1));
        }
    }

    // ---- groups, power

    private void inGroups() {
        int group = chance(3) ? random.nextInt(8) : 0;
        Model.Group g = model.groups[group];
        List<Integer> members = new ArrayList<>(g.heard.keySet());
        boolean known = !members.isEmpty() && !chance(4);
        int member = known ? members.get(random.nextInt(members.size())) : random.nextInt(chance(3) ? 8 : 3);
        int generation = g.generation - (chance(6) ? 1 : 0);
        int log = random.nextInt(model.n);
        switch (random.nextInt(10)) {
            case 0:
            case 1:
            case 9:
                call("join", group, member);
                break;
            case 2:
                call("leave", group, member);
                break;
            case 3:
                call("beat", group, member, generation);
                break;
            case 4:
            case 5:
                long end = model.logs[log].end;
                call("commit", group, member, generation, log, chance(5) ? end + pick(1, -1) : end);
                break;
            case 6:
                call("ticks", pick(1, 1, 1, 5, 9, 10, 11, 15, 19, 20, 21, 29, 30, 200));
                break;
            case 7:
                call("committed", group, log);
                break;
            default:
                call("group", group, random.nextInt(5));
                call("share", group, member);
                call("time");
        }
    }

    private void power() {
        switch (random.nextInt(4)) {
            case 0:
            case 1:
                call("crash", pick(-1, 0, 1, 1, 2, 2, 3, 4, 5, 6, 7, 9));
                break;
            case 2:
                call("producer");
                break;
            default:
                if (chance(3)) {
                    call("recover");
                }
        }
        call("isDown");
    }

    private void clean() {
        int log = busyLog();
        if (chance(3)) {
            call("retain", log, pick(0, 0, 337, 1000, 1500, 3000, 8000));
        } else {
            call("compact", chance(6) ? model.n : log);
        }
        call("log", log, random.nextInt(6));
    }

    private void step() {
        int all = Arrays.stream(weights).sum();
        int at = random.nextInt(all);
        int way = 0;
        while (at >= weights[way]) {
            at -= weights[way];
            way++;
        }
        switch (way) {
            case 0:
                send();
                send();
                break;
            case 1:
                read();
                break;
            case 2:
                clean();
                break;
            case 3:
                inGroups();
                break;
            case 4:
                power();
                break;
            default:
                faults();
        }
        if (model.down && !chance(4)) {
            call("recover");
        }
    }

    /** Leaves no block, or few, for others. */
    private void crowd() {
        int left = random.nextInt(4);
        while (model.free() / model.segmentBlocks > left && calls < 200 && !failed) {
            call("record", 3, 0, -1, 0, 300, 0);
            call("seal", -1, -1, -1, 0);
            call("produce", 0);
            call("recover");
        }
    }

    private void run() {
        if (crowded) {
            crowd();
        }
        while (calls < MOST_CALLS && !failed) {
            step();
        }
    }

    public static void main(String[] args) {
        int runs = args.length > 0 ? Integer.parseInt(args[0]) : 1000;
        int from = args.length > 1 ? Integer.parseInt(args[1]) : 0;
        for (int seed = from; seed < from + runs; seed++) {
            new ModelTest(seed).run();
        }
        if (args.length > 2) {
            ANSWERS.keySet().stream().sorted().forEach(k -> System.out.println(k + ": " + ANSWERS.get(k)));
        }
        System.out.println(runs + " random runs, " + wrong + " with a wrong answer");
        if (wrong != 0) {
            System.exit(1);
        }
    }
}
