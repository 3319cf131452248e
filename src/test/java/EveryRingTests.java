import java.util.Arrays;

/** Every ring of up to five devices, each with an ISOLATOR or not, with each WIRE whole, CUT or SHORT, against the model. */
public final class EveryRingTests {
    private static final int MOST_DEVICES = 5;
    private static final Check check = new Check("EveryRingTests");

    private final int devices;
    private final String name;
    private final Calls ring = new Calls();
    private final Model model = new Model();

    private EveryRingTests(int devices, int isolators, int wires) {
        this.devices = devices;
        StringBuilder text = new StringBuilder();
        for (int i = 0; i < devices; i++) {
            text.append("d0,").append(i % 2).append(',').append(isolators >> i & 1).append(';');
        }
        ring.writeAll(text.toString());
        text.chars().forEach(model::write);
        check.due("lay() of " + text, ring.call("lay"), model.lay());
        StringBuilder told = new StringBuilder(text).append(" wires");
        int rest = wires;
        for (int w = 0; w <= devices; w++) {
            told.append(' ').append(rest % 3);
            check.due(told.toString(), ring.call("wire", w, rest % 3), model.wire(w, rest % 3));
            rest /= 3;
        }
        name = told.append(": ").toString();
    }

    public static void main(String[] args) {
        for (int devices = 1; devices <= MOST_DEVICES; devices++) {
            int tellings = (int) Math.pow(3, devices + 1);
            for (int isolators = 0; isolators < 1 << devices; isolators++) {
                for (int wires = 0; wires < tellings; wires++) {
                    new EveryRingTests(devices, isolators, wires).askAll();
                }
            }
        }
        check.end();
    }

    private void askAll() {
        for (int i = 0; i < devices; i++) {
            due(model.device(i, 8), "device", i, 8);
            for (int end = 1; end <= 2; end++) {
                for (int what = 0; what <= 2; what++) {
                    due(model.stop(i, end, what), "stop", i, end, what);
                }
            }
        }
        for (int w = 0; w <= devices; w++) {
            for (int what = 0; what <= 2; what++) {
                due(model.wireOf(w, what), "wireOf", w, what);
            }
        }
        for (int what = 0; what <= 1; what++) {
            due(model.worst(what), "worst", what);
            due(model.help(what), "help", what);
            due(model.zone(what, 4), "zone", what, 4);
        }
        due(model.count(2), "count", 2);
    }

    private void due(int want, String call, int... with) {
        int got = ring.call(call, with);
        if (got == want) {
            check.due(call, got, want);
        } else {
            check.due(name + call + Arrays.toString(with), got, want);
        }
    }
}
