import java.util.ArrayList;
import java.util.Arrays;
import java.util.List;

/**
 * "Nothing changes then", and what is UNDONE, held against all that can be asked: two objects with the same past, one of them
 * with a refused call (or a question) more, have to tell the same, now and behind each change that can be UNDONE.
 */
public final class RefusedTests {
    private static final Check check = new Check("RefusedTests");
    private static final String FULL_RING = "d0,0,1;d1,0,0;d2,1,0;d0,1,0;d3,2,1;d0,2,0;d1,3,0;d2,4,0;d0,5,1;d2,5,0;d1,3,0;d0,0,0;"
        + "e0,63,0,1;e2,63,1,1;e1,3,2,0;t20,40,1,2;v1;";
    private static final String SMALL_RING = "d0,0,0;d2,1,0;e0,2,0,1;e0,2,9,0;t20,40,1,1;";

    /** Objects' pasts: a text to be laid ("" for none), a text behind that, then calls that all are taken. */
    private static final String[][] PASTS = {
        {"", ""},
        {"", "d0,0,0;", "read(0, 40)", "tick(1)"},
        {"", "v", "read(1, 45)", "tick(1)", "silence()", "wire(2, 1)", "wire(5, 2)", "day(0)", "read(2, 1)", "tick(3)"},
        {SMALL_RING, ""},
        {SMALL_RING, "", "read(0, 50)", "tick(1)", "read(1, 1)", "tick(5)", "silence()", "reset()", "day(0)", "wire(1, 2)"},
        {SMALL_RING, "", "read(0, 50)", "read(1, 1)", "day(0)", "tick(50)", "silence()", "wire(0, 1)", "wire(2, 1)"},
        {FULL_RING, "", "read(2, 1)", "read(0, 19)", "tick(7)", "silence()", "read(11, 60)", "wire(0, 1)", "tick(4)"},
        {"d0,0,1;", "", "wire(0, 1)", "wire(1, 2)", "read(0, 99)", "tick(2)", "undo()", "undo()", "read(0, 5)"},
        {"d2,0,1;e0,1,0,0;", "", "read(0, 1)", "tick(1)", "wire(0, 2)", "read(0, 0)", "undo()"},
    };

    private RefusedTests() {
    }

    public static void main(String[] args) {
        for (String[] past : PASTS) {
            refusedAndAsked(past, 7);
            undone(past);
        }
        refusedAndAsked(full(), 0);
        refusedAndAsked(late(), 1);
        check.end();
    }

    private static String[] full() {
        return new String[] {"", "x".repeat(200), "read(0, 1)"};
    }

    private static String[] late() {
        String[] past = new String[2 + 200];
        Arrays.fill(past, "tick(50)");
        past[0] = "";
        past[1] = "";
        past[2] = "read(0, 19)";
        return past;
    }

    private static Calls made(String[] past, int calls) {
        Calls ring = new Calls();
        if (!past[0].isEmpty()) {
            ring.writeAll(past[0]);
            check.holds("lay of " + past[0], ring.call("lay") > 0);
        }
        ring.writeAll(past[1]);
        for (int k = 0; k < calls; k++) {
            check.holds(past[2 + k] + " is taken", ring.written(past[2 + k]) >= 0);
        }
        return ring;
    }

    private static Calls made(String[] past) {
        return made(past, past.length - 2);
    }

    private static void refusedAndAsked(String[] past, int undos) {
        int[][] due = new int[undos + 1][];
        for (int k = 0; k <= undos; k++) {
            due[k] = toldBehind(made(past), k);
        }
        for (String call : someCalls(made(past))) {
            boolean asks = call.matches("(fault|device|stop|wireOf|worst|help|zone|effect|count)\\(.*");
            if (asks || made(past).written(call) < 0) {
                for (int k = 0; k <= undos; k++) {
                    Calls ring = made(past);
                    ring.written(call);
                    check.holds(call + " changes nothing behind " + k + " undo() and " + String.join(" ", past),
                        Arrays.equals(toldBehind(ring, k), due[k]));
                }
            }
        }
    }

    private static int[] toldBehind(Calls ring, int undos) {
        for (int k = 0; k < undos; k++) {
            ring.call("undo");
        }
        return ring.all();
    }

    /** Calls with numbers at their bounds and beyond; which of them are refused depends on the object's past. */
    private static List<String> someCalls(Calls ring) {
        List<String> calls = new ArrayList<>();
        int last = ring.call("count", 0) - 1;
        int lastEffect = ring.call("count", 1) - 1;
        String[] plain = {"write(31)", "write(127)", "write(120)", "wipe()", "fault()", "lay()", "silence()", "reset()", "undo()",
            "day(-1)", "day(0)", "day(1)", "day(2)", "tick(-1)", "tick(0)", "tick(50)", "tick(51)", "worst(-1)", "worst(0)",
            "worst(1)", "worst(2)", "help(-1)", "help(0)", "help(1)", "help(2)", "count(-1)", "count(11)", "count(12)"};
        calls.addAll(Arrays.asList(plain));
        for (int i : new int[] {-1, 0, last, last + 1}) {
            for (int v : new int[] {-1, 0, 1, 5, 19, 50, 99, 100}) {
                calls.add("read(" + i + ", " + v + ")");
            }
            calls.add("device(" + i + ", 7)");
            calls.add("device(" + i + ", 9)");
            calls.add("stop(" + i + ", 1, 1)");
            calls.add("stop(" + i + ", 3, 2)");
        }
        for (int w : new int[] {-1, 0, 1, 2, last + 1, last + 2}) {
            for (int how = -1; how <= 3; how++) {
                calls.add("wire(" + w + ", " + how + ")");
            }
            calls.add("wireOf(" + w + ", 2)");
            calls.add("wireOf(" + w + ", 3)");
        }
        for (int z : new int[] {-1, 0, 5, 6}) {
            calls.add("zone(" + z + ", 2)");
        }
        for (int k : new int[] {-1, 0, lastEffect, lastEffect + 1}) {
            calls.add("effect(" + k + ", 4)");
        }
        return calls;
    }

    /** Behind k undo() an object tells what it told k changes ago, but for how many changes can be UNDONE. */
    private static void undone(String[] past) {
        int calls = past.length - 2;
        for (int k = 1; k <= Math.min(6, calls) && !past[1 + calls - k + 1].equals("undo()"); k++) {
            Calls ring = made(past);
            for (int n = 1; n <= k; n++) {
                check.due(n + ". undo() behind " + String.join(" ", past), ring.call("undo"), Math.min(6, takeable(past)) - n);
            }
            check.holds("as it stood " + k + " changes ago: " + String.join(" ", past),
                Arrays.equals(but9(ring.all()), but9(made(past, calls - k).all())));
        }
    }

    private static int takeable(String[] past) {
        int changes = 0;
        for (int k = 2; k < past.length; k++) {
            changes += past[k].equals("undo()") ? -1 : 1;
        }
        return changes;
    }

    /** The last thirteen told are count(0) to count(11) and fault(). */
    private static int[] but9(int[] told) {
        told[told.length - 4] = 0;
        return told;
    }
}
