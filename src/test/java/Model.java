import java.util.ArrayDeque;
import java.util.ArrayList;
import java.util.Deque;
import java.util.List;
import java.util.TreeMap;
import java.util.TreeSet;
import java.util.regex.Matcher;
import java.util.regex.Pattern;

/** The document told a second time, slowly and with the whole library, to hold the program against. */
final class Model {
    static final int BAD = -1, NO = -2, FULL = -3, NONE = -4;

    private static final class Device {
        int kind, zone, reading, base, count;
        boolean isolator, fire;

        Device twin() {
            Device d = new Device();
            d.kind = kind;
            d.zone = zone;
            d.reading = reading;
            d.base = base;
            d.count = count;
            d.isolator = isolator;
            d.fire = fire;
            return d;
        }

        int value() {
            return reading > base ? reading - base : 0;
        }
    }

    private static final class Effect {
        int kind, set, delay, wait;
        boolean sound, on, silent;

        Effect twin() {
            Effect e = new Effect();
            e.kind = kind;
            e.set = set;
            e.delay = delay;
            e.wait = wait;
            e.sound = sound;
            e.on = on;
            e.silent = silent;
            return e;
        }
    }

    private static final class Site {
        final List<Device> devices = new ArrayList<>();
        final List<Effect> effects = new ArrayList<>();
        final List<Integer> wires = new ArrayList<>();
        final TreeMap<Integer, Integer> since = new TreeMap<>();
        int pre = 30, alarm = 60, confirm = 2, bases = 4, phase = 3, tick = 0;
        boolean day = true;

        Site twin() {
            Site s = new Site();
            devices.forEach(d -> s.devices.add(d.twin()));
            effects.forEach(e -> s.effects.add(e.twin()));
            s.wires.addAll(wires);
            s.since.putAll(since);
            s.pre = pre;
            s.alarm = alarm;
            s.confirm = confirm;
            s.bases = bases;
            s.phase = phase;
            s.tick = tick;
            s.day = day;
            return s;
        }
    }

    private final StringBuilder text = new StringBuilder();
    private final Deque<Site> past = new ArrayDeque<>();
    private Site site;

    Model() {
        text.append("d0,0,1;d1,0,0;d2,1,0;d0,1,1;d3,2,0;d0,2,0;d1,3,1;d0,3,0;")
            .append("e0,15,0,1;e2,15,3,0;e1,3,2,0;e0,4,0,1;t20,40,2,4;v3;");
        lay();
        text.setLength(0);
    }

    // ---- told

    int write(int letter) {
        if (letter < 32 || letter > 126) {
            return BAD;
        }
        if (text.length() == 200) {
            return FULL;
        }
        text.append((char) letter);
        return text.length();
    }

    int wipe() {
        int was = text.length();
        text.setLength(0);
        return was;
    }

    int fault() {
        Object o = parse();
        return o instanceof Integer ? (Integer) o : NONE;
    }

    int lay() {
        Object o = parse();
        if (o instanceof Integer || ((Site) o).devices.isEmpty()) {
            return NO;
        }
        site = (Site) o;
        for (int w = 0; w <= site.devices.size(); w++) {
            site.wires.add(0);
        }
        past.clear();
        return site.devices.size();
    }

    /** The place of FAULT, or what the text lays. */
    private Object parse() {
        Site s = new Site();
        String rest = text.toString();
        int place = 0;
        while (!rest.isEmpty()) {
            int end = rest.indexOf(';');
            if (end < 0 || !item(s, rest.substring(0, end))) {
                return place;
            }
            place += end + 1;
            rest = rest.substring(end + 1);
        }
        return s;
    }

    private static final Pattern THREE = Pattern.compile("d([0-9]{1,2}),([0-9]{1,2}),([0-9]{1,2})");
    private static final Pattern FOUR = Pattern.compile("[et]([0-9]{1,2}),([0-9]{1,2}),([0-9]{1,2}),([0-9]{1,2})");
    private static final Pattern ONE = Pattern.compile("v([0-9]{1,2})");

    private static boolean item(Site s, String item) {
        Matcher m = THREE.matcher(item);
        if (m.matches()) {
            Device d = new Device();
            d.kind = number(m, 1);
            d.zone = number(m, 2);
            d.isolator = number(m, 3) == 1;
            s.devices.add(d);
            return d.kind <= 3 && d.zone <= 5 && number(m, 3) <= 1 && s.devices.size() <= 12;
        }
        m = ONE.matcher(item);
        if (m.matches()) {
            s.phase = number(m, 1);
            return s.phase >= 1 && s.phase <= 9;
        }
        m = FOUR.matcher(item);
        if (!m.matches()) {
            return false;
        }
        if (item.charAt(0) == 't') {
            s.pre = number(m, 1);
            s.alarm = number(m, 2);
            s.confirm = number(m, 3);
            s.bases = number(m, 4);
            return s.pre >= 1 && s.pre <= 90 && s.alarm > s.pre && s.confirm <= 9 && s.bases >= 1 && s.bases <= 9;
        }
        Effect e = new Effect();
        e.kind = number(m, 1);
        e.set = number(m, 2);
        e.delay = number(m, 3);
        e.sound = number(m, 4) == 1;
        s.effects.add(e);
        return e.kind <= 2 && e.set >= 1 && e.set <= 63 && e.delay <= 9 && number(m, 4) <= 1 && s.effects.size() <= 6;
    }

    private static int number(Matcher m, int group) {
        return Integer.parseInt(m.group(group));
    }

    // ---- what happens

    private void change() {
        past.push(site.twin());
        while (past.size() > 6) {
            past.removeLast();
        }
    }

    private boolean noDevice(int i) {
        return i < 0 || i >= site.devices.size();
    }

    private boolean noWire(int w) {
        return w < 0 || w >= site.wires.size();
    }

    int read(int i, int v) {
        if (noDevice(i) || v < 0 || v > 99) {
            return BAD;
        }
        int was = site.devices.get(i).reading;
        if (was == v) {
            return NO;
        }
        change();
        site.devices.get(i).reading = v;
        return was;
    }

    int wire(int w, int how) {
        if (noWire(w) || how < 0 || how > 2) {
            return BAD;
        }
        int was = site.wires.get(w);
        if (was == how) {
            return NO;
        }
        change();
        site.wires.set(w, how);
        return was;
    }

    int day(int is) {
        if (is != 0 && is != 1) {
            return BAD;
        }
        if (site.day == (is == 1)) {
            return NO;
        }
        change();
        site.day = is == 1;
        return count(5);
    }

    int tick(int n) {
        if (n < 1 || n > 50) {
            return BAD;
        }
        if (site.tick + n > 9999) {
            return NO;
        }
        change();
        int come = 0;
        for (int k = 0; k < n; k++) {
            come += oneTick();
        }
        return come;
    }

    private TreeSet<Integer> burning() {
        TreeSet<Integer> zones = new TreeSet<>();
        for (Device d : site.devices) {
            if (d.fire) {
                zones.add(d.zone);
            }
        }
        return zones;
    }

    private int oneTick() {
        site.tick++;
        int fires = count(3);
        TreeSet<Integer> before = burning();
        for (int i = 0; i < site.devices.size(); i++) {
            if (ends(site, i) != 0) {
                Device d = site.devices.get(i);
                if (d.kind == 0) {
                    d.count = d.value() >= site.alarm ? d.count + 1 : 0;
                }
                boolean comes = d.kind == 0 && d.count > site.confirm
                    || d.kind == 1 && d.value() >= site.alarm
                    || d.kind == 2 && d.reading > 0;
                d.fire = d.fire || comes;
            }
        }
        for (int i = 0; i < site.devices.size(); i++) {
            Device d = site.devices.get(i);
            if (site.tick % site.bases == 0 && ends(site, i) != 0 && d.kind < 2 && d.value() < site.pre) {
                d.base = Math.min(40, d.base + Integer.signum(d.reading - d.base));
            }
        }
        site.since.replaceAll((z, ticks) -> ticks + 1);
        for (int z : burning()) {
            if (!before.contains(z)) {
                site.since.put(z, 0);
                site.effects.forEach(e -> e.silent = false);
            }
        }
        for (Effect e : site.effects) {
            if (!e.on) {
                e.wait = wanted(e) ? e.wait + 1 : 0;
                e.on = e.wait > (site.day ? e.delay : 0);
            }
        }
        return count(3) - fires;
    }

    private boolean wanted(Effect e) {
        int in = 0;
        int of = 0;
        for (int z = 0; z < 6; z++) {
            if ((e.set & 1 << z) != 0) {
                of++;
                in += burning().contains(z) ? 1 : 0;
            }
        }
        return e.kind == 0 ? in >= 1 : e.kind == 1 ? in == of : in >= 2;
    }

    int silence() {
        if (count(11) == 0) {
            return NO;
        }
        change();
        int were = count(6);
        site.effects.forEach(e -> e.silent = e.silent || e.on && e.sound);
        return count(6) - were;
    }

    int reset() {
        if (count(3) == 0 && count(5) == 0) {
            return NO;
        }
        change();
        int were = count(3);
        for (Device d : site.devices) {
            d.fire = false;
            d.count = 0;
        }
        for (Effect e : site.effects) {
            e.on = false;
            e.silent = false;
            e.wait = 0;
        }
        site.since.clear();
        return were;
    }

    int undo() {
        if (past.isEmpty()) {
            return NO;
        }
        site = past.pop();
        return past.size();
    }

    // ---- the ring

    /** Number of the stretch of a wire: one more behind each device with an isolator. */
    private static int stretch(Site s, int w) {
        return w == 0 ? 0 : stretch(s, w - 1) + (s.devices.get(w - 1).isolator ? 1 : 0);
    }

    private static int shortIn(Site s, int stretch) {
        for (int w = 0; w < s.wires.size(); w++) {
            if (s.wires.get(w) == 2 && stretch(s, w) == stretch) {
                return w;
            }
        }
        return NONE;
    }

    private static List<Integer> way(Site s, int i, int end) {
        List<Integer> way = new ArrayList<>();
        if (end == 1) {
            for (int w = 0; w <= i; w++) {
                way.add(w);
            }
        } else {
            for (int w = s.wires.size() - 1; w > i; w--) {
                way.add(w);
            }
        }
        return way;
    }

    private static int stopped(Site s, int i, int end) {
        for (int w : way(s, i, end)) {
            if (s.wires.get(w) == 1 || shortIn(s, stretch(s, w)) != NONE) {
                return w;
            }
        }
        return NONE;
    }

    private static int ends(Site s, int i) {
        return (stopped(s, i, 1) == NONE ? 1 : 0) + (stopped(s, i, 2) == NONE ? 2 : 0);
    }

    private static int lost(Site s) {
        int lost = 0;
        for (int i = 0; i < s.devices.size(); i++) {
            lost += ends(s, i) == 0 ? 1 : 0;
        }
        return lost;
    }

    private static int lostBy(Site s, int w) {
        Site other = s.twin();
        other.wires.set(w, 2);
        return lost(other);
    }

    private static int[] worstOf(Site s) {
        int[] worst = {NONE, NONE};
        for (int w = s.wires.size() - 1; w >= 0; w--) {
            if (s.wires.get(w) == 0 && lostBy(s, w) >= worst[1]) {
                worst = new int[] {w, lostBy(s, w)};
            }
        }
        return worst;
    }

    int device(int i, int what) {
        if (noDevice(i) || what < 0 || what > 8) {
            return BAD;
        }
        Device d = site.devices.get(i);
        int level = d.kind > 1 ? 0 : d.value() >= site.alarm ? 2 : d.value() >= site.pre ? 1 : 0;
        int[] told = {d.kind, d.zone, d.isolator ? 1 : 0, d.reading, d.base, d.value(), d.count,
            d.fire ? 3 : level, ends(site, i)};
        return told[what];
    }

    int stop(int i, int end, int what) {
        if (noDevice(i) || end < 1 || end > 2 || what < 0 || what > 2) {
            return BAD;
        }
        int w = stopped(site, i, end);
        if (w == NONE) {
            return what == 0 ? 0 : NONE;
        }
        int[] told = {site.wires.get(w) == 1 ? 1 : 2, w, shortIn(site, stretch(site, w))};
        return told[what];
    }

    int wireOf(int w, int what) {
        if (noWire(w) || what < 0 || what > 2) {
            return BAD;
        }
        int[] told = {site.wires.get(w), stretch(site, w), lostBy(site, w)};
        return told[what];
    }

    int worst(int what) {
        return what < 0 || what > 1 ? BAD : worstOf(site)[what];
    }

    int help(int what) {
        if (what < 0 || what > 1) {
            return BAD;
        }
        int[] best = {NONE, NONE};
        for (int i = site.devices.size() - 1; i >= 0; i--) {
            Site other = site.twin();
            other.devices.get(i).isolator = true;
            int loss = worstOf(other)[1];
            if (!site.devices.get(i).isolator && loss != NONE && (best[0] == NONE || loss <= best[1])) {
                best = new int[] {i, loss};
            }
        }
        return best[what];
    }

    // ---- zones, effects

    int zone(int z, int what) {
        if (z < 0 || z > 5 || what < 0 || what > 5) {
            return BAD;
        }
        int[] told = {burning().contains(z) ? 1 : 0, site.since.getOrDefault(z, NONE), leave(z), 0, 0, 0};
        for (int i = 0; i < site.devices.size(); i++) {
            Device d = site.devices.get(i);
            if (d.zone == z) {
                told[3]++;
                told[4] += ends(site, i) == 0 ? 1 : 0;
                told[5] += d.fire ? 1 : 0;
            }
        }
        return told[what];
    }

    private int leave(int z) {
        if (burning().contains(z)) {
            return 1;
        }
        int longest = site.since.values().stream().mapToInt(t -> t).max().orElse(-1);
        int beside = Math.max(site.since.getOrDefault(z - 1, -1), site.since.getOrDefault(z + 1, -1));
        return beside >= site.phase ? 2 : longest >= 2 * site.phase ? 3 : 0;
    }

    int effect(int k, int what) {
        if (k < 0 || k >= site.effects.size() || what < 0 || what > 7) {
            return BAD;
        }
        Effect e = site.effects.get(k);
        int[] told = {e.kind, e.set, e.delay, e.sound ? 1 : 0, wanted(e) ? 1 : 0, e.wait, e.on ? 1 : 0, e.silent ? 1 : 0};
        return told[what];
    }

    int count(int what) {
        switch (what) {
            case 0: return site.devices.size();
            case 1: return site.effects.size();
            case 2: return lost(site);
            case 3: return (int) site.devices.stream().filter(d -> d.fire).count();
            case 4: return burning().size();
            case 5: return (int) site.effects.stream().filter(e -> e.on).count();
            case 6: return (int) site.effects.stream().filter(e -> e.silent).count();
            case 7: return site.tick;
            case 8: return site.day ? 1 : 0;
            case 9: return past.size();
            case 10: return text.length();
            case 11: return (int) site.effects.stream().filter(e -> e.sound && e.on && !e.silent).count();
            default: return BAD;
        }
    }
}
