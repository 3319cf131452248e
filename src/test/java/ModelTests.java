import java.util.Arrays;
import java.util.Random;

/** Many runs of calls, the same ones each time, in which the program has to answer as the model does. */
public final class ModelTests {
    private static final int RUNS = 1500;
    private static final int CALLS = 512;
    private static final Check check = new Check("ModelTests");

    private final Random random;
    private final AlarmRing ring = new AlarmRing();
    private final Model model = new Model();
    private final String name;
    private int calls = 0;

    private ModelTests(int run) {
        random = new Random(run);
        name = "run " + run;
    }

    public static void main(String[] args) {
        for (int run = 0; run < RUNS; run++) {
            new ModelTests(run).go();
        }
        check.end();
    }

    private void go() {
        if (random.nextInt(5) != 0) {
            tellText();
        }
        // Few changes of wires in some runs and many in others, so that fires and losses both come about.
        int wiresOften = random.nextInt(4);
        while (calls < CALLS) {
            if (random.nextInt(120) == 0 && calls < CALLS - 210) {
                tellText();
            }
            happen(wiresOften);
            for (int k = 0; k < 3; k++) {
                ask();
            }
        }
    }

    private void due(String call, int got, int want) {
        calls++;
        check.due(name + ", call " + calls + ", " + call, got, want);
    }

    private void tellText() {
        due("wipe", ring.wipe(), model.wipe());
        String text = randomText();
        for (int k = 0; k < text.length(); k++) {
            due("write", ring.write(text.charAt(k)), model.write(text.charAt(k)));
        }
        due("fault of " + text, ring.fault(), model.fault());
        due("lay of " + text, ring.lay(), model.lay());
    }

    private String randomText() {
        StringBuilder text = new StringBuilder();
        int devices = 1 + random.nextInt(12);
        int effects = random.nextInt(7);
        int isolators = random.nextInt(3);
        for (int k = 0; k < devices; k++) {
            item(text, 'd', random.nextInt(4), random.nextInt(6), random.nextInt(3) < isolators ? 1 : 0);
        }
        for (int k = 0; k < effects; k++) {
            item(text, 'e', random.nextInt(3), 1 + random.nextInt(63), random.nextInt(10), random.nextInt(2));
        }
        if (random.nextInt(3) != 0) {
            int pre = 1 + random.nextInt(90);
            item(text, 't', pre, pre + 1 + random.nextInt(99 - pre), random.nextInt(10), 1 + random.nextInt(9));
        }
        if (random.nextInt(3) != 0) {
            item(text, 'v', 1 + random.nextInt(9));
        }
        if (random.nextInt(4) == 0) {
            String some = "detv0123456789,;,; ";
            text.setCharAt(random.nextInt(text.length()), some.charAt(random.nextInt(some.length())));
        }
        if (random.nextInt(10) == 0) {
            text.setLength(random.nextInt(text.length() + 1));
        }
        return text.toString();
    }

    private static void item(StringBuilder text, char letter, int... numbers) {
        String told = Arrays.toString(numbers).replaceAll("[^0-9,]", "");
        text.append(letter).append(told).append(';');
    }

    /** A number from 0 to most, at times one beyond the ends. */
    private int about(int most) {
        int dice = random.nextInt(40);
        return dice == 0 ? -1 : dice == 1 ? most + 1 : random.nextInt(most + 1);
    }

    private int reading() {
        int dice = random.nextInt(4);
        return dice == 0 ? about(99) : dice == 1 ? about(30) : dice == 2 ? 40 + about(59) : 0;
    }

    private void happen(int wiresOften) {
        int i = about(Math.max(0, model.count(0) - 1));
        int w = about(model.count(0));
        int dice = random.nextInt(20 + wiresOften * 2);
        if (dice < 7) {
            int v = reading();
            due("read(" + i + ", " + v + ")", ring.read(i, v), model.read(i, v));
        } else if (dice < 12) {
            int n = random.nextInt(30) == 0 ? about(51) : 1 + random.nextInt(random.nextInt(4) == 0 ? 50 : 4);
            due("tick(" + n + ")", ring.tick(n), model.tick(n));
        } else if (dice == 12) {
            int is = about(1);
            due("day(" + is + ")", ring.day(is), model.day(is));
        } else if (dice == 13 || dice == 14) {
            due("silence", ring.silence(), model.silence());
        } else if (dice == 15) {
            due("reset", ring.reset(), model.reset());
        } else if (dice == 16 || dice == 17) {
            due("undo", ring.undo(), model.undo());
        } else if (dice == 18) {
            int letter = random.nextBoolean() ? 32 + random.nextInt(95) : 28 + random.nextInt(103);
            due("write(" + letter + ")", ring.write(letter), model.write(letter));
        } else {
            int how = random.nextInt(3) == 0 ? about(2) : 0;
            due("wire(" + w + ", " + how + ")", ring.wire(w, how), model.wire(w, how));
        }
    }

    private void ask() {
        int i = about(Math.max(0, model.count(0) - 1));
        int w = about(model.count(0));
        int z = about(5);
        int k = about(Math.max(0, model.count(1) - 1));
        int end = 1 + about(1);
        switch (random.nextInt(9)) {
            case 0: int d = about(8); due("device(" + i + ", " + d + ")", ring.device(i, d), model.device(i, d)); break;
            case 1: int s = about(2); due("stop(" + i + ", " + end + ", " + s + ")", ring.stop(i, end, s), model.stop(i, end, s)); break;
            case 2: int o = about(2); due("wireOf(" + w + ", " + o + ")", ring.wireOf(w, o), model.wireOf(w, o)); break;
            case 3: int t = about(1); due("worst(" + t + ")", ring.worst(t), model.worst(t)); break;
            case 4: int h = about(1); due("help(" + h + ")", ring.help(h), model.help(h)); break;
            case 5: int y = about(5); due("zone(" + z + ", " + y + ")", ring.zone(z, y), model.zone(z, y)); break;
            case 6: int e = about(7); due("effect(" + k + ", " + e + ")", ring.effect(k, e), model.effect(k, e)); break;
            case 7: int c = about(11); due("count(" + c + ")", ring.count(c), model.count(c)); break;
            default: due("fault", ring.fault(), model.fault()); break;
        }
    }
}
