import java.util.Arrays;

/** A ring of alarms, its faults, its fires and what follows from them; ../shared/DOC.md tells what each call answers. */
public final class AlarmRing {
    public static final int BAD = -1, NO = -2, FULL = -3, NONE = -4;

    private static final int MOST_DEVICES = 12;
    private static final int MOST_EFFECTS = 6;
    private static final int ZONES = 6;
    private static final int HIGHEST_READING = 99;
    private static final int MOST_TICKS_OF_A_CALL = 50;
    private static final int MOST_TICKS = 9999;

    private static final int SMOKE = 0;
    private static final int HEAT = 1;
    private static final int BUTTON = 2;

    private static final int WHOLE = 0;
    private static final int CUT = 1;
    private static final int SHORT = 2;

    private static final int END_A = 1;
    private static final int END_B = 2;

    private static final String LAID_AT_FIRST =
        "d0,0,1;d1,0,0;d2,1,0;d0,1,1;d3,2,0;d0,2,0;d1,3,1;d0,3,0;e0,15,0,1;e2,15,3,0;e1,3,2,0;e0,4,0,1;t20,40,2,4;v3;";

    private final Text text;
    private final Past past;
    private Plan plan;
    // FAULT is looked for by reading THE TEXT into this one, so that what is laid stays.
    private Plan sparePlan;
    private State now;

    public AlarmRing() {
        text = new Text();
        past = new Past();
        plan = new Plan();
        sparePlan = new Plan();
        now = new State();
        for (int k = 0; k < LAID_AT_FIRST.length(); k++) {
            text.append(LAID_AT_FIRST.charAt(k));
        }
        text.readInto(plan);
        text.clear();
    }

    // ---- told

    public int write(int letter) {
        if (!within(letter, 32, 126)) {
            return BAD;
        }
        return text.append(letter) ? text.length : FULL;
    }

    public int wipe() {
        int was = text.length;
        text.clear();
        return was;
    }

    public int fault() {
        return text.readInto(sparePlan);
    }

    public int lay() {
        if (text.readInto(sparePlan) != NONE || sparePlan.devices == 0) {
            return NO;
        }
        Plan old = plan;
        plan = sparePlan;
        sparePlan = old;
        now.begin();
        past.forget();
        return plan.devices;
    }

    // ---- what happens

    public int read(int i, int v) {
        if (!isDevice(i) || !within(v, 0, HIGHEST_READING)) {
            return BAD;
        }
        int was = now.reading[i];
        if (was == v) {
            return NO;
        }
        past.keep(now);
        now.reading[i] = v;
        return was;
    }

    public int wire(int w, int how) {
        if (!isWire(w) || !within(how, WHOLE, SHORT)) {
            return BAD;
        }
        int was = now.conditionOf(w);
        if (was == how) {
            return NO;
        }
        past.keep(now);
        now.setCondition(w, how);
        return was;
    }

    public int day(int is) {
        if (!within(is, 0, 1)) {
            return BAD;
        }
        if (is == now.byDay) {
            return NO;
        }
        past.keep(now);
        now.byDay = is;
        return Integer.bitCount(now.on);
    }

    public int tick(int n) {
        if (!within(n, 1, MOST_TICKS_OF_A_CALL)) {
            return BAD;
        }
        if (now.ticks + n > MOST_TICKS) {
            return NO;
        }
        past.keep(now);
        int lost = lostNow();
        int before = Integer.bitCount(now.fires);
        for (int k = 0; k < n; k++) {
            now.goOn(plan, lost);
        }
        return Integer.bitCount(now.fires) - before;
    }

    public int silence() {
        int sounding = soundsThatSound();
        if (sounding == 0) {
            return NO;
        }
        past.keep(now);
        now.silent |= sounding;
        return Integer.bitCount(sounding);
    }

    public int reset() {
        if (now.fires == 0 && now.on == 0) {
            return NO;
        }
        past.keep(now);
        int were = Integer.bitCount(now.fires);
        now.putBack();
        return were;
    }

    public int undo() {
        if (past.kept == 0) {
            return NO;
        }
        now = past.takeBack(now);
        return past.kept;
    }

    // ---- the ring

    public int device(int i, int what) {
        if (!isDevice(i) || !within(what, 0, 8)) {
            return BAD;
        }
        switch (what) {
            case 0: return plan.kind[i];
            case 1: return plan.zoneOf[i];
            case 2: return bit(plan.isolators, i);
            case 3: return now.reading[i];
            case 4: return now.base[i];
            case 5: return now.valueOf(i);
            case 6: return now.held[i];
            case 7: return now.levelOf(plan, i);
            default: return endsThatReach(i);
        }
    }

    public int stop(int i, int end, int what) {
        if (!isDevice(i) || !within(end, END_A, END_B) || !within(what, 0, 2)) {
            return BAD;
        }
        int blocked = blockedNow();
        int w = end == END_A ? Ring.stopFromA(i, blocked) : Ring.stopFromB(plan.devices, i, blocked);
        if (w == NONE) {
            return what == 0 ? 0 : NONE;
        }
        switch (what) {
            case 0: return bit(now.cuts, w) == 1 ? CUT : SHORT;
            case 1: return w;
            default: return Ring.lowestShort(plan.devices, plan.isolators, now.shorts, w);
        }
    }

    public int wireOf(int w, int what) {
        if (!isWire(w) || !within(what, 0, 2)) {
            return BAD;
        }
        switch (what) {
            case 0: return now.conditionOf(w);
            case 1: return Ring.stretchOf(plan.isolators, w);
            default: return lossByShort(plan.isolators, w);
        }
    }

    public int worst(int what) {
        if (!within(what, 0, 1)) {
            return BAD;
        }
        int w = worstWire(plan.isolators);
        if (w == NONE) {
            return NONE;
        }
        return what == 0 ? w : lossByShort(plan.isolators, w);
    }

    public int help(int what) {
        if (!within(what, 0, 1)) {
            return BAD;
        }
        if (worstWire(plan.isolators) == NONE) {
            return NONE;
        }
        int helper = NONE;
        int fewest = 0;
        for (int i = 0; i < plan.devices; i++) {
            if (bit(plan.isolators, i) == 0) {
                int isolators = plan.isolators | 1 << i;
                int loss = lossByShort(isolators, worstWire(isolators));
                if (helper == NONE || loss < fewest) {
                    helper = i;
                    fewest = loss;
                }
            }
        }
        return what == 0 || helper == NONE ? helper : fewest;
    }

    // ---- zones, effects

    public int zone(int z, int what) {
        if (!within(z, 0, ZONES - 1) || !within(what, 0, 5)) {
            return BAD;
        }
        switch (what) {
            case 0: return bit(now.zonesInFire(plan), z);
            case 1: return bit(now.zonesInFire(plan), z) == 1 ? now.since(z) : NONE;
            case 2: return now.phaseToLeave(plan, z);
            case 3: return Integer.bitCount(plan.devicesIn(z));
            case 4: return Integer.bitCount(plan.devicesIn(z) & lostNow());
            default: return Integer.bitCount(plan.devicesIn(z) & now.fires);
        }
    }

    public int effect(int k, int what) {
        if (!within(k, 0, plan.effects - 1) || !within(what, 0, 7)) {
            return BAD;
        }
        switch (what) {
            case 0: return plan.effectKind[k];
            case 1: return plan.effectZones[k];
            case 2: return plan.delay[k];
            case 3: return bit(plan.sounds, k);
            case 4: return plan.wants(k, now.zonesInFire(plan)) ? 1 : 0;
            case 5: return now.waited[k];
            case 6: return bit(now.on, k);
            default: return bit(now.silent, k);
        }
    }

    public int count(int what) {
        switch (what) {
            case 0: return plan.devices;
            case 1: return plan.effects;
            case 2: return Integer.bitCount(lostNow());
            case 3: return Integer.bitCount(now.fires);
            case 4: return Integer.bitCount(now.zonesInFire(plan));
            case 5: return Integer.bitCount(now.on);
            case 6: return Integer.bitCount(now.silent);
            case 7: return now.ticks;
            case 8: return now.byDay;
            case 9: return past.kept;
            case 10: return text.length;
            case 11: return Integer.bitCount(soundsThatSound());
            default: return BAD;
        }
    }

    private static boolean within(int number, int lowest, int highest) {
        return number >= lowest && number <= highest;
    }

    private static int bit(int set, int place) {
        return set >> place & 1;
    }

    private boolean isDevice(int i) {
        return within(i, 0, plan.devices - 1);
    }

    private boolean isWire(int w) {
        return within(w, 0, plan.devices);
    }

    private int blockedNow() {
        return now.cuts | Ring.deadWires(plan.devices, plan.isolators, now.shorts);
    }

    private int lostNow() {
        return Ring.lostDevices(plan.devices, plan.isolators, now.cuts, now.shorts);
    }

    private int endsThatReach(int i) {
        int blocked = blockedNow();
        int byA = Ring.stopFromA(i, blocked) == NONE ? END_A : 0;
        int byB = Ring.stopFromB(plan.devices, i, blocked) == NONE ? END_B : 0;
        return byA + byB;
    }

    private int soundsThatSound() {
        return now.on & plan.sounds & ~now.silent;
    }

    private int lossByShort(int isolators, int w) {
        int cuts = now.cuts & ~(1 << w);
        int shorts = now.shorts | 1 << w;
        return Integer.bitCount(Ring.lostDevices(plan.devices, isolators, cuts, shorts));
    }

    private int worstWire(int isolators) {
        int worst = NONE;
        int most = 0;
        for (int w = 0; w <= plan.devices; w++) {
            if (now.conditionOf(w) == WHOLE) {
                int loss = lossByShort(isolators, w);
                if (worst == NONE || loss > most) {
                    worst = w;
                    most = loss;
                }
            }
        }
        return worst;
    }

    /** Wires and devices of a ring, each set of them as bits, so that a ring that only might be costs no object. */
    private static final class Ring {
        private Ring() {
        }

        static int deadWires(int devices, int isolators, int shorts) {
            int dead = 0;
            int stretch = 0;
            for (int w = 0; w <= devices; w++) {
                stretch |= 1 << w;
                boolean ends = w == devices || bit(isolators, w) == 1;
                if (ends) {
                    dead |= (stretch & shorts) != 0 ? stretch : 0;
                    stretch = 0;
                }
            }
            return dead;
        }

        static int lostDevices(int devices, int isolators, int cuts, int shorts) {
            int blocked = cuts | deadWires(devices, isolators, shorts);
            int lost = (1 << devices) - 1;
            for (int w = 0; w < devices && bit(blocked, w) == 0; w++) {
                lost &= ~(1 << w);
            }
            for (int w = devices; w > 0 && bit(blocked, w) == 0; w--) {
                lost &= ~(1 << w - 1);
            }
            return lost;
        }

        static int stopFromA(int device, int blocked) {
            for (int w = 0; w <= device; w++) {
                if (bit(blocked, w) == 1) {
                    return w;
                }
            }
            return NONE;
        }

        static int stopFromB(int devices, int device, int blocked) {
            for (int w = devices; w > device; w--) {
                if (bit(blocked, w) == 1) {
                    return w;
                }
            }
            return NONE;
        }

        static int stretchOf(int isolators, int w) {
            return Integer.bitCount(isolators & (1 << w) - 1);
        }

        static int lowestShort(int devices, int isolators, int shorts, int w) {
            int stretch = stretchOf(isolators, w);
            for (int k = 0; k <= devices; k++) {
                if (bit(shorts, k) == 1 && stretchOf(isolators, k) == stretch) {
                    return k;
                }
            }
            return NONE;
        }
    }

    /** THE TEXT, and how ITEMS are read from it. */
    private static final class Text {
        private static final int MOST_LETTERS = 200;
        private static final int MOST_NUMBERS = 4;
        private static final int NO_LETTER = 0;

        private final int[] letters = new int[MOST_LETTERS];
        private final int[] numbers = new int[MOST_NUMBERS];
        private int at;
        int length;

        boolean append(int letter) {
            if (length >= MOST_LETTERS) {
                return false;
            }
            letters[length] = letter;
            length++;
            return true;
        }

        void clear() {
            length = 0;
        }

        /** The place of FAULT, or NONE; the plan is whole only behind NONE. */
        int readInto(Plan target) {
            target.begin();
            at = 0;
            for (int items = 0; items < MOST_LETTERS && at < length; items++) {
                int first = at;
                if (!readItem(target)) {
                    return first;
                }
            }
            return NONE;
        }

        private boolean readItem(Plan target) {
            int letter = here();
            at++;
            int needed = numbersBehind(letter);
            if (needed == 0) {
                return false;
            }
            for (int k = 0; k < needed && k < MOST_NUMBERS; k++) {
                if (!readNumber(k) || here() != (k == needed - 1 ? ';' : ',')) {
                    return false;
                }
                at++;
            }
            switch (letter) {
                case 'd': return target.addDevice(numbers[0], numbers[1], numbers[2]);
                case 'e': return target.addEffect(numbers[0], numbers[1], numbers[2], numbers[3]);
                case 't': return target.setLimits(numbers[0], numbers[1], numbers[2], numbers[3]);
                default: return target.setPhase(numbers[0]);
            }
        }

        private static int numbersBehind(int letter) {
            switch (letter) {
                case 'd': return 3;
                case 'e': return 4;
                case 't': return 4;
                case 'v': return 1;
                default: return 0;
            }
        }

        private boolean readNumber(int k) {
            if (!isFigure(here())) {
                return false;
            }
            int number = here() - '0';
            at++;
            if (isFigure(here())) {
                number = number * 10 + here() - '0';
                at++;
            }
            numbers[k] = number;
            return true;
        }

        private int here() {
            return at < length ? letters[at] : NO_LETTER;
        }

        private static boolean isFigure(int letter) {
            return letter >= '0' && letter <= '9';
        }
    }

    /** What a TEXT lays: DEVICES, EFFECTS and the numbers by which they go. */
    private static final class Plan {
        private static final int ANY = 0;
        private static final int ALL = 1;

        final int[] kind = new int[MOST_DEVICES];
        final int[] zoneOf = new int[MOST_DEVICES];
        final int[] effectKind = new int[MOST_EFFECTS];
        final int[] effectZones = new int[MOST_EFFECTS];
        final int[] delay = new int[MOST_EFFECTS];
        int devices;
        int isolators;
        int effects;
        int sounds;
        int pre;
        int alarm;
        int confirm;
        int pace;
        int phaseTicks;

        void begin() {
            devices = 0;
            isolators = 0;
            effects = 0;
            sounds = 0;
            pre = 30;
            alarm = 60;
            confirm = 2;
            pace = 4;
            phaseTicks = 3;
        }

        boolean addDevice(int kindTold, int zoneTold, int isolator) {
            boolean so = within(kindTold, 0, 3) && within(zoneTold, 0, ZONES - 1) && within(isolator, 0, 1);
            if (!so || devices >= MOST_DEVICES) {
                return false;
            }
            kind[devices] = kindTold;
            zoneOf[devices] = zoneTold;
            isolators |= isolator << devices;
            devices++;
            return true;
        }

        boolean addEffect(int kindTold, int zones, int delayTold, int sound) {
            boolean so = within(kindTold, 0, 2) && within(zones, 1, 63) && within(delayTold, 0, 9) && within(sound, 0, 1);
            if (!so || effects >= MOST_EFFECTS) {
                return false;
            }
            effectKind[effects] = kindTold;
            effectZones[effects] = zones;
            delay[effects] = delayTold;
            sounds |= sound << effects;
            effects++;
            return true;
        }

        boolean setLimits(int preTold, int alarmTold, int confirmTold, int paceTold) {
            boolean so = within(preTold, 1, 90) && within(alarmTold, preTold + 1, 99)
                && within(confirmTold, 0, 9) && within(paceTold, 1, 9);
            if (so) {
                pre = preTold;
                alarm = alarmTold;
                confirm = confirmTold;
                pace = paceTold;
            }
            return so;
        }

        boolean setPhase(int ticksTold) {
            boolean so = within(ticksTold, 1, 9);
            if (so) {
                phaseTicks = ticksTold;
            }
            return so;
        }

        int devicesIn(int z) {
            int set = 0;
            for (int i = 0; i < devices; i++) {
                set |= zoneOf[i] == z ? 1 << i : 0;
            }
            return set;
        }

        boolean wants(int k, int zonesInFire) {
            int burning = effectZones[k] & zonesInFire;
            switch (effectKind[k]) {
                case ANY: return burning != 0;
                case ALL: return burning == effectZones[k];
                default: return Integer.bitCount(burning) >= 2;
            }
        }

        boolean basesGoOnIn(int number) {
            return pace > 0 && number % pace == 0;
        }
    }

    /** All that changes and can be UNDONE; sets of devices, wires and effects are bits. */
    private static final class State {
        private static final int HIGHEST_BASE = 40;

        final int[] reading = new int[MOST_DEVICES];
        final int[] base = new int[MOST_DEVICES];
        final int[] held = new int[MOST_DEVICES];
        final int[] waited = new int[MOST_EFFECTS];
        final int[] cameIn = new int[ZONES];
        int cuts;
        int shorts;
        int fires;
        int on;
        int silent;
        int ticks;
        int byDay;

        State() {
            byDay = 1;
        }

        void begin() {
            Arrays.fill(reading, 0);
            Arrays.fill(base, 0);
            cuts = 0;
            shorts = 0;
            ticks = 0;
            byDay = 1;
            putBack();
        }

        void putBack() {
            Arrays.fill(held, 0);
            Arrays.fill(waited, 0);
            fires = 0;
            on = 0;
            silent = 0;
        }

        void copy(State other) {
            System.arraycopy(other.reading, 0, reading, 0, MOST_DEVICES);
            System.arraycopy(other.base, 0, base, 0, MOST_DEVICES);
            System.arraycopy(other.held, 0, held, 0, MOST_DEVICES);
            System.arraycopy(other.waited, 0, waited, 0, MOST_EFFECTS);
            System.arraycopy(other.cameIn, 0, cameIn, 0, ZONES);
            cuts = other.cuts;
            shorts = other.shorts;
            fires = other.fires;
            on = other.on;
            silent = other.silent;
            ticks = other.ticks;
            byDay = other.byDay;
        }

        int conditionOf(int w) {
            return bit(cuts, w) == 1 ? CUT : bit(shorts, w) == 1 ? SHORT : WHOLE;
        }

        void setCondition(int w, int how) {
            cuts &= ~(1 << w);
            shorts &= ~(1 << w);
            cuts |= how == CUT ? 1 << w : 0;
            shorts |= how == SHORT ? 1 << w : 0;
        }

        int valueOf(int i) {
            return Math.max(0, reading[i] - base[i]);
        }

        int levelOf(Plan plan, int i) {
            if (bit(fires, i) == 1) {
                return 3;
            }
            if (plan.kind[i] != SMOKE && plan.kind[i] != HEAT) {
                return 0;
            }
            return valueOf(i) >= plan.alarm ? 2 : valueOf(i) >= plan.pre ? 1 : 0;
        }

        int zonesInFire(Plan plan) {
            int zones = 0;
            for (int i = 0; i < plan.devices; i++) {
                zones |= bit(fires, i) << plan.zoneOf[i];
            }
            return zones;
        }

        int since(int z) {
            return ticks - cameIn[z];
        }

        int phaseToLeave(Plan plan, int z) {
            int burning = zonesInFire(plan);
            if (bit(burning, z) == 1) {
                return 1;
            }
            int phase = 0;
            for (int k = 0; k < ZONES; k++) {
                if (bit(burning, k) == 1) {
                    boolean nextTo = k == z - 1 || k == z + 1;
                    if (nextTo && since(k) >= plan.phaseTicks) {
                        return 2;
                    }
                    phase = since(k) >= 2 * plan.phaseTicks ? 3 : phase;
                }
            }
            return phase;
        }

        /** One TICK. */
        void goOn(Plan plan, int lost) {
            int zonesBefore = zonesInFire(plan);
            ticks++;
            boolean basesGoOn = plan.basesGoOnIn(ticks);
            for (int i = 0; i < plan.devices; i++) {
                if (bit(lost, i) == 0) {
                    watch(plan, i);
                    if (basesGoOn) {
                        follow(plan, i);
                    }
                }
            }
            int zones = zonesInFire(plan);
            noteZonesThatCome(zones & ~zonesBefore);
            for (int k = 0; k < plan.effects; k++) {
                moveEffect(plan, k, zones);
            }
        }

        private void watch(Plan plan, int i) {
            boolean high = valueOf(i) >= plan.alarm;
            boolean burns = false;
            switch (plan.kind[i]) {
                case SMOKE:
                    held[i] = high ? held[i] + 1 : 0;
                    burns = held[i] > plan.confirm;
                    break;
                case HEAT:
                    burns = high;
                    break;
                case BUTTON:
                    burns = reading[i] > 0;
                    break;
                default:
                    break;
            }
            fires |= burns ? 1 << i : 0;
        }

        private void follow(Plan plan, int i) {
            boolean drifts = plan.kind[i] == SMOKE || plan.kind[i] == HEAT;
            if (!drifts || valueOf(i) >= plan.pre) {
                return;
            }
            if (base[i] > reading[i]) {
                base[i]--;
            } else if (base[i] < reading[i] && base[i] < HIGHEST_BASE) {
                base[i]++;
            }
        }

        private void noteZonesThatCome(int come) {
            if (come == 0) {
                return;
            }
            silent = 0;
            for (int z = 0; z < ZONES; z++) {
                if (bit(come, z) == 1) {
                    cameIn[z] = ticks;
                }
            }
        }

        private void moveEffect(Plan plan, int k, int zones) {
            if (bit(on, k) == 1) {
                return;
            }
            waited[k] = plan.wants(k, zones) ? waited[k] + 1 : 0;
            int needed = byDay == 1 ? plan.delay[k] : 0;
            on |= waited[k] > needed ? 1 << k : 0;
        }
    }

    /** States ahead of the latest changes, the latest first; the same few objects go round. */
    private static final class Past {
        private static final int MOST_KEPT = 6;

        private final State[] states = new State[MOST_KEPT];
        int kept;

        Past() {
            for (int k = 0; k < MOST_KEPT; k++) {
                states[k] = new State();
            }
        }

        void forget() {
            kept = 0;
        }

        void keep(State state) {
            State oldest = states[MOST_KEPT - 1];
            for (int k = MOST_KEPT - 1; k > 0; k--) {
                states[k] = states[k - 1];
            }
            oldest.copy(state);
            states[0] = oldest;
            kept = Math.min(kept + 1, MOST_KEPT);
        }

        /** The latest kept state; the one that is given up takes its place among those to be used again. */
        State takeBack(State givenUp) {
            State latest = states[0];
            for (int k = 0; k < MOST_KEPT - 1; k++) {
                states[k] = states[k + 1];
            }
            states[MOST_KEPT - 1] = givenUp;
            kept = Math.max(kept - 1, 0);
            return latest;
        }
    }
}
