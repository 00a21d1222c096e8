/** All that a broker tells of itself by calls that change nothing, as one text; some 130 calls. */
final class Seen {
    private Seen() {
    }

    static String all(BatchBroker x) {
        StringBuilder s = new StringBuilder();
        s.append("time ").append(x.time()).append(", writes ").append(x.writes()).append(", down ").append(x.isDown());
        s.append("\ntape ").append(x.trim(0)).append(", fault ").append(x.fault(0)).append(" at ").append(x.fault(1));
        s.append("\nfetched");
        int[] places = {0, 7, 60, 61, 77, 200, 1023};
        for (int i : places) {
            tell(s, () -> x.byteAt(i));
        }
        for (int what = 0; what <= 5; what++) {
            int w = what;
            tell(s, () -> x.taken(0, w));
        }
        if (!x.isDown()) {
            logs(s, x);
            groups(s, x);
            s.append("\nfree ").append(x.free()).append(", audit ").append(x.audit());
        }
        return s.toString();
    }

    private static void logs(StringBuilder s, BatchBroker x) {
        for (int log = 0; log <= 2; log++) {
            int l = log;
            s.append("\nlog ").append(l);
            for (int what = 0; what <= 5; what++) {
                int w = what;
                tell(s, () -> x.log(l, w));
            }
            s.append(", known");
            for (int what = 0; what <= 3; what++) {
                int w = what;
                tell(s, () -> x.known(l, 3, w));
            }
            tell(s, () -> x.find(l, 0));
        }
    }

    private static void groups(StringBuilder s, BatchBroker x) {
        for (int group = 0; group <= 7; group += 7) {
            int g = group;
            s.append("\ngroup ").append(g);
            for (int what = 0; what <= 4; what++) {
                s.append(' ').append(x.group(g, what));
            }
            s.append(", shares");
            for (int member = 0; member < 8; member++) {
                s.append(' ').append(x.share(g, member));
            }
            s.append(", committed");
            for (int log = 0; log <= 1; log++) {
                int l = log;
                tell(s, () -> x.committed(g, l));
            }
        }
    }

    private static void tell(StringBuilder s, Expect.Call call) {
        try {
            s.append(' ').append(call.answer());
        } catch (IllegalArgumentException e) {
            s.append(" none");
        }
    }
}
