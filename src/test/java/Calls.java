import java.util.Arrays;
import java.util.LinkedHashMap;
import java.util.Map;

/** One object of the program, called by calls that are written out ("read(0, 40)"), 512 at most. */
final class Calls {
    private static final int MOST_CALLS = 512;

    private interface Call {
        int on(AlarmRing ring, int[] with);
    }

    private static final Map<String, Call> FACE = new LinkedHashMap<>();

    static {
        FACE.put("write/1", (r, a) -> r.write(a[0]));
        FACE.put("wipe/0", (r, a) -> r.wipe());
        FACE.put("fault/0", (r, a) -> r.fault());
        FACE.put("lay/0", (r, a) -> r.lay());
        FACE.put("read/2", (r, a) -> r.read(a[0], a[1]));
        FACE.put("wire/2", (r, a) -> r.wire(a[0], a[1]));
        FACE.put("day/1", (r, a) -> r.day(a[0]));
        FACE.put("tick/1", (r, a) -> r.tick(a[0]));
        FACE.put("silence/0", (r, a) -> r.silence());
        FACE.put("reset/0", (r, a) -> r.reset());
        FACE.put("undo/0", (r, a) -> r.undo());
        FACE.put("device/2", (r, a) -> r.device(a[0], a[1]));
        FACE.put("stop/3", (r, a) -> r.stop(a[0], a[1], a[2]));
        FACE.put("wireOf/2", (r, a) -> r.wireOf(a[0], a[1]));
        FACE.put("worst/1", (r, a) -> r.worst(a[0]));
        FACE.put("help/1", (r, a) -> r.help(a[0]));
        FACE.put("zone/2", (r, a) -> r.zone(a[0], a[1]));
        FACE.put("effect/2", (r, a) -> r.effect(a[0], a[1]));
        FACE.put("count/1", (r, a) -> r.count(a[0]));
    }

    private final AlarmRing ring = new AlarmRing();
    private int made = 0;

    /** Behind the 512th call answers are free, so a test that goes there tests nothing. */
    private void oneMore() {
        made++;
        if (made > MOST_CALLS) {
            throw new IllegalStateException("a test makes more than " + MOST_CALLS + " calls on one object");
        }
    }

    int call(String name, int... with) {
        Call call = FACE.get(name + "/" + with.length);
        if (call == null) {
            throw new IllegalStateException("no such call: " + name + Arrays.toString(with));
        }
        oneMore();
        return call.on(ring, with);
    }

    /** A call as it is written, such as "read(0, 40)"; LEAST and MOST are the ends of int. */
    int written(String call) {
        int open = call.indexOf('(');
        String inside = call.substring(open + 1, call.lastIndexOf(')')).trim();
        if (inside.isEmpty()) {
            return call(call.substring(0, open));
        }
        return call(call.substring(0, open), Arrays.stream(inside.split(",")).mapToInt(Calls::number).toArray());
    }

    void writeAll(String text) {
        for (int k = 0; k < text.length(); k++) {
            call("write", text.charAt(k));
        }
    }

    static int number(String word) {
        switch (word.trim()) {
            case "BAD": return -1;
            case "NO": return -2;
            case "FULL": return -3;
            case "NONE": return -4;
            case "LEAST": return Integer.MIN_VALUE;
            case "MOST": return Integer.MAX_VALUE;
            default: return Integer.parseInt(word.trim());
        }
    }

    /** All that can be asked of the object as it stands. */
    int[] all() {
        int devices = call("count", 0);
        int effects = call("count", 1);
        int[] told = new int[400];
        int n = 0;
        for (int i = 0; i < devices; i++) {
            n = ask(told, n, 8, "device", i);
            for (int end = 1; end <= 2; end++) {
                n = ask(told, n, 2, "stop", i, end);
            }
        }
        for (int w = 0; w <= devices; w++) {
            n = ask(told, n, 2, "wireOf", w);
        }
        for (int z = 0; z < 6; z++) {
            n = ask(told, n, 5, "zone", z);
        }
        for (int k = 0; k < effects; k++) {
            n = ask(told, n, 7, "effect", k);
        }
        n = ask(told, n, 1, "worst");
        n = ask(told, n, 1, "help");
        n = ask(told, n, 11, "count");
        told[n++] = call("fault");
        return Arrays.copyOf(told, n);
    }

    private int ask(int[] told, int from, int lastWhat, String name, int... of) {
        int n = from;
        int[] with = Arrays.copyOf(of, of.length + 1);
        for (int what = 0; what <= lastWhat; what++) {
            with[of.length] = what;
            told[n++] = call(name, with);
        }
        return n;
    }
}
