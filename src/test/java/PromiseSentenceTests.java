/** Changes, the order of the answers, and "Promise 1" to "Promise 20": each boundary has a test of its own. */
public final class PromiseSentenceTests {
    private static final Check check = new Check("PromiseSentenceTests");
    private static final String TWELVE_BUTTONS = "d2,5,1;".repeat(12);
    private static Sentences the;

    private PromiseSentenceTests() {
    }

    public static void main(String[] args) throws Exception {
        the = new Sentences(check);
        changes();
        undone();
        undoneAtMost();
        undoneBehindLaid();
        bad();
        order();
        asTheyStand();
        calls();
        newObject();
        write();
        wipe();
        faultAndLay();
        read();
        wire();
        day();
        tick();
        tickAtTheEnd();
        silence();
        reset();
        undo();
        device();
        stop();
        wireOf();
        worst();
        help();
        zone();
        effect();
        count();
        countAtMost();
        check.end();
    }

    private static void changes() {
        the.says("A change: a READING, a WIRE told anew, DAY or NIGHT, TICKS, SILENCED, PUT BACK.", """
            laid d2,0,0;e0,1,0,1;
            count(9) = 0   read(0, 1) = 0   count(9) = 1   wire(0, 1) = 0   count(9) = 2   day(0) = 0   count(9) = 3
            tick(2) = 1   count(9) = 4   silence() = 1   count(9) = 5   reset() = 1   count(9) = 6
            undo() = 5   device(0, 7) = 3   effect(0, 7) = 1   effect(0, 6) = 1   effect(0, 5) = 1   zone(0, 1) = 1
            undo() = 4   effect(0, 7) = 0   effect(0, 6) = 1
            undo() = 3   device(0, 7) = 0   effect(0, 6) = 0   effect(0, 5) = 0   count(7) = 0   zone(0, 1) = NONE
            undo() = 2   count(8) = 1
            undo() = 1   wireOf(0, 0) = 0
            undo() = 0   device(0, 3) = 0
            undo() = NO
            write(100) = 17   fault() = 16   count(9) = 0   wipe() = 17   count(9) = 0
            laid d2,0,0;d0,1,0;e0,1,0,1;e0,1,9,0;
            wire(2, 2) = 0   wire(0, 1) = 0   day(0) = 0   read(1, 5) = 0   wire(2, 0) = 2   day(1) = 0
            undo() = 5   count(8) = 0   wireOf(2, 0) = 0   undo() = 4   wireOf(2, 0) = 2   wireOf(0, 0) = 1   device(1, 3) = 5
            undo() = 3   device(1, 3) = 0   wireOf(2, 0) = 2   wireOf(0, 0) = 1   count(8) = 0
            undo() = 2   count(8) = 1   undo() = 1   wireOf(0, 0) = 0   undo() = 0   wireOf(2, 0) = 0
            """);
    }

    private static void undone() {
        the.says("UNDONE is the latest change (TICKS of one call at once", """
            laid d0,0,0;t20,40,2,1;
            read(0, 10) = 0   tick(5) = 0   tick(1) = 0   device(0, 4) = 6   undo() = 2   device(0, 4) = 5   count(7) = 5
            undo() = 1   device(0, 4) = 0   count(7) = 0   device(0, 3) = 10
            read(0, 40) = 10   tick(2) = 0   device(0, 6) = 2   tick(50) = 1   device(0, 6) = 52
            undo() = 3   device(0, 6) = 2   device(0, 7) = 2   count(7) = 2   tick(1) = 1
            """);
        the.says("such by which nothing becomes another, too", """
            laid d3,0,0;
            tick(1) = 0   tick(1) = 0   count(9) = 2   undo() = 1   count(7) = 1   undo() = 0   count(7) = 0   undo() = NO
            """);
    }

    private static void undoneAtMost() {
        the.says("the last 6 can be", """
            read(0, 1) = 0   read(0, 2) = 1   read(0, 3) = 2   read(0, 4) = 3   read(0, 5) = 4   count(9) = 5
            read(0, 6) = 5   count(9) = 6   read(0, 7) = 6   count(9) = 6   read(0, 8) = 7   count(9) = 6
            undo() = 5   device(0, 3) = 7   undo() = 4   device(0, 3) = 6   undo() = 3   device(0, 3) = 5
            undo() = 2   device(0, 3) = 4   undo() = 1   device(0, 3) = 3   undo() = 0   device(0, 3) = 2
            undo() = NO   device(0, 3) = 2   count(9) = 0
            read(0, 9) = 2   count(9) = 1   read(0, 10) = 9   undo() = 1   read(0, 11) = 9   count(9) = 2
            undo() = 1   device(0, 3) = 9   undo() = 0   device(0, 3) = 2   undo() = NO
            """);
    }

    private static void undoneBehindLaid() {
        the.says("behind LAID none can be", """
            read(0, 1) = 0   tick(1) = 0
            text d0,0,0;
            count(9) = 2   lay() = 1   count(9) = 0   undo() = NO   count(0) = 1
            read(0, 5) = 0   lay() = 1   undo() = NO   device(0, 3) = 0
            read(0, 5) = 0   write(120) = 8   lay() = NO   undo() = 0   device(0, 3) = 0   undo() = NO
            """);
    }

    private static void bad() {
        the.says("BAD: a number is none that is told (DEVICES, WIRES, EFFECTS such as there are; ZONES 0 to 5).", """
            laid d0,0,0;e0,1,0,0;
            read(1, 1) = BAD   device(1, 0) = BAD   stop(1, 1, 0) = BAD   wire(2, 1) = BAD   wireOf(2, 0) = BAD   effect(1, 0) = BAD
            read(7, 1) = BAD   wire(8, 1) = BAD   effect(3, 0) = BAD   zone(5, 0) = 0   zone(6, 0) = BAD   zone(-1, 0) = BAD
            write(LEAST) = BAD   write(MOST) = BAD   day(LEAST) = BAD   day(MOST) = BAD   tick(LEAST) = BAD   tick(MOST) = BAD
            read(LEAST, 1) = BAD   read(MOST, 1) = BAD   read(0, LEAST) = BAD   read(0, MOST) = BAD
            wire(LEAST, 1) = BAD   wire(MOST, 1) = BAD   wire(0, LEAST) = BAD   wire(0, MOST) = BAD
            device(LEAST, 0) = BAD   device(MOST, 0) = BAD   device(0, LEAST) = BAD   device(0, MOST) = BAD
            stop(LEAST, 1, 0) = BAD   stop(MOST, 1, 0) = BAD   stop(0, LEAST, 0) = BAD   stop(0, MOST, 0) = BAD
            stop(0, 1, LEAST) = BAD   stop(0, 1, MOST) = BAD   wireOf(LEAST, 0) = BAD   wireOf(MOST, 0) = BAD
            wireOf(0, LEAST) = BAD   wireOf(0, MOST) = BAD   worst(LEAST) = BAD   worst(MOST) = BAD   help(LEAST) = BAD
            help(MOST) = BAD   zone(LEAST, 0) = BAD   zone(MOST, 0) = BAD   zone(0, LEAST) = BAD   zone(0, MOST) = BAD
            effect(LEAST, 0) = BAD   effect(MOST, 0) = BAD   effect(0, LEAST) = BAD   effect(0, MOST) = BAD
            count(LEAST) = BAD   count(MOST) = BAD   count(9) = 0   count(10) = 16
            """);
    }

    private static void order() {
        the.says("NO: not as things stand. NONE: there is none. FULL.", ""
            + "lay() = NO   read(0, 0) = NO   wire(0, 0) = NO   day(1) = NO   silence() = NO   reset() = NO   undo() = NO\n"
            + "fault() = NONE   stop(0, 1, 1) = NONE   stop(0, 1, 2) = NONE   zone(0, 1) = NONE\n"
            + "text " + "v".repeat(200) + "\n"
            + "write(118) = FULL   write(118) = FULL   fault() = 0   lay() = NO\n");
        the.says("Of several the first in this order; nothing changes then.", """
            199 times tick(50) = 0
            tick(49) = 0   tick(1) = NO   tick(0) = BAD   tick(51) = BAD   count(7) = 9999
            read(0, 0) = NO   read(8, 0) = BAD   wire(0, 0) = NO   wire(9, 0) = BAD   day(1) = NO   day(2) = BAD
            """ + "text " + "x".repeat(200) + "\n" + """
            write(120) = FULL   write(31) = BAD   write(127) = BAD   count(10) = 200
            laid d0,0,1;
            wire(0, 1) = 0   wire(1, 2) = 0   worst(0) = NONE   worst(2) = BAD   help(0) = NONE   help(2) = BAD   help(-1) = BAD
            stop(0, 3, 2) = BAD   stop(0, 1, 3) = BAD   zone(0, 1) = NONE   zone(6, 1) = BAD   zone(0, 6) = BAD
            """);
    }

    private static void asTheyStand() {
        the.says("All that is asked is told of all as it stands then; LAID, THE TEXT stays.", """
            laid d0,0,0;t20,40,0,9;
            read(0, 40) = 0   device(0, 7) = 2   device(0, 6) = 0   wire(0, 2) = 0   count(2) = 1   wire(0, 0) = 2   count(2) = 0
            count(10) = 18   fault() = NONE   lay() = 1   count(10) = 18   lay() = 1   write(120) = 19   lay() = NO   count(10) = 19
            read(0, 1) = 0   undo() = 0   count(10) = 19   fault() = 18
            """);
    }

    private static void calls() {
        the.says("An object is used for at most 512 calls after it has been made", """
            255 times day(2) = BAD
            255 times count(0) = 8
            read(0, 99) = 0   device(0, 3) = 99
            """);
    }

    private static void newObject() {
        the.says("`AlarmRing()`: As told; THE TEXT is empty.", """
            count(10) = 0   wipe() = 0   fault() = NONE   lay() = NO   undo() = NO   silence() = NO   reset() = NO
            count(0) = 8   count(1) = 4   count(2) = 0   count(3) = 0   count(4) = 0   count(5) = 0   count(6) = 0
            count(7) = 0   count(8) = 1   count(9) = 0   count(11) = 0
            """);
        AlarmRing one = new AlarmRing();
        AlarmRing other = new AlarmRing();
        one.read(0, 9);
        one.write('v');
        check.due("1 objects are apart", other.device(0, 3) + other.count(9) + other.count(10), 0);
        check.due("1 BAD", AlarmRing.BAD, -1);
        check.due("1 NO", AlarmRing.NO, -2);
        check.due("1 FULL", AlarmRing.FULL, -3);
        check.due("1 NONE", AlarmRing.NONE, -4);
    }

    private static void write() {
        the.says("A letter (32 to 126, as in ASCII) comes behind THE TEXT: how long it is. BAD", """
            write(-1) = BAD   write(0) = BAD   write(31) = BAD   count(10) = 0   write(32) = 1   write(126) = 2   write(127) = BAD
            write(256) = BAD   write(356) = BAD   write(65636) = BAD   count(10) = 2
            """);
        the.says("FULL: it has 200.", ""
            + "text " + "v".repeat(199) + "\n"
            + "write(118) = 200   write(118) = FULL   count(10) = 200   wipe() = 200   write(118) = 1\n");
    }

    private static void wipe() {
        the.says("`int wipe()`: THE TEXT is empty: how long it was.", ""
            + "wipe() = 0   write(120) = 1   fault() = 0   wipe() = 1   count(10) = 0   fault() = NONE   wipe() = 0\n"
            + "text " + "v".repeat(200) + "\n"
            + "wipe() = 200   count(10) = 0   read(0, 1) = 0   wipe() = 0   device(0, 3) = 1   count(9) = 1\n"
            + "text v1;\n"
            + "fault() = NONE   count(10) = 3\n");
    }

    private static void faultAndLay() {
        the.says("`int fault()`: FAULT. NONE.", """
            fault() = NONE   write(118) = 1   fault() = 0   write(49) = 2   fault() = 0   write(59) = 3   fault() = NONE
            write(118) = 4   fault() = 3   fault() = 3   count(0) = 8   count(10) = 4   count(9) = 0
            """);
        the.says("`int lay()`: LAID: how many DEVICES. NO.", ""
            + "lay() = NO\n"
            + "text d0,0,0;\n"
            + "lay() = 1   lay() = 1\n"
            + "text " + "d0,0,0;".repeat(11) + "\n"
            + "lay() = 12\n"
            + "text d0,0,0;\n"
            + "lay() = NO   count(0) = 12   wipe() = 91   lay() = NO   count(0) = 12\n");
    }

    private static void read() {
        the.says("READING of a DEVICE is told anew: what it was. BAD; NO: it is so.", """
            read(-1, 1) = BAD   read(8, 1) = BAD   read(0, -1) = BAD   read(0, 100) = BAD   read(-1, 100) = BAD
            read(0, 0) = NO   read(7, 0) = NO   count(9) = 0
            read(0, 99) = 0   read(0, 99) = NO   read(7, 1) = 0   read(0, 0) = 99   count(9) = 3   device(7, 3) = 1
            """);
    }

    private static void wire() {
        the.says("A WIRE is whole (0), CUT (1), SHORT (2): how it was. BAD; NO: it is so.", """
            wire(-1, 1) = BAD   wire(9, 1) = BAD   wire(0, -1) = BAD   wire(0, 3) = BAD   wire(9, 3) = BAD
            wire(0, 0) = NO   wire(8, 0) = NO   count(9) = 0
            wire(0, 1) = 0   wire(0, 1) = NO   wire(0, 2) = 1   wire(0, 2) = NO   wire(0, 1) = 2   wire(0, 0) = 1   wire(0, 0) = NO
            wire(8, 2) = 0   wire(8, 0) = 2   count(9) = 6   count(2) = 0
            """);
    }

    private static void day() {
        the.says("It is DAY (is = 1) or NIGHT (0): how many EFFECTS are ON. BAD; NO: it is so.", """
            day(-1) = BAD   day(2) = BAD   day(1) = NO   count(9) = 0   day(0) = 0   day(0) = NO   count(8) = 0   day(1) = 0
            count(8) = 1   count(9) = 2
            laid d2,0,0;e0,1,0,0;e0,1,0,1;e0,1,0,0;e0,1,0,0;e0,1,0,0;e0,1,0,0;
            read(0, 1) = 0   tick(1) = 1   day(0) = 6
            """);
    }

    private static void tick() {
        the.says("n TICKS (1 to 50): how many DEVICES come in FIRE in them. BAD", ""
            + "tick(-1) = BAD   tick(0) = BAD   tick(51) = BAD   count(7) = 0   count(9) = 0\n"
            + "tick(1) = 0   count(7) = 1   tick(50) = 0   count(7) = 51\n"
            + "laid d2,0,0;d0,0,0;d1,0,0;t20,40,4,9;\n"
            + "read(0, 1) = 0   read(1, 40) = 0   read(2, 40) = 0   tick(5) = 3   tick(50) = 0\n"
            + "laid " + TWELVE_BUTTONS + "\n"
            + "tick(1) = 0   read(0, 1) = 0   read(1, 1) = 0   read(2, 1) = 0   read(3, 1) = 0   read(4, 1) = 0   read(5, 1) = 0\n"
            + "read(6, 1) = 0   read(7, 1) = 0   read(8, 1) = 0   read(9, 1) = 0   read(10, 1) = 0   read(11, 1) = 0\n"
            + "tick(50) = 12   tick(1) = 0   zone(5, 5) = 12\n");
    }

    private static void tickAtTheEnd() {
        the.says("NO: there would be more than 9999.", """
            199 times tick(50) = 0
            count(7) = 9950   tick(50) = NO   count(7) = 9950   tick(48) = 0   tick(2) = NO   tick(1) = 0   count(7) = 9999
            tick(1) = NO   tick(50) = NO   count(7) = 9999   count(9) = 6   undo() = 5   count(7) = 9998   tick(1) = 0
            laid d0,0,0;d2,1,0;t90,99,9,9;
            199 times tick(50) = 0
            read(0, 9) = 0   read(1, 1) = 0   tick(48) = 1   device(0, 4) = 5   tick(1) = 0   count(7) = 9999   device(0, 4) = 6
            zone(1, 1) = 48
            laid d0,0,0;d2,1,0;t90,99,9,9;
            read(0, 99) = 0   read(1, 1) = 0
            tick(50) = 2
            198 times tick(50) = 0
            tick(49) = 0   device(0, 6) = 9999   zone(1, 1) = 9998   zone(0, 1) = 9989
            """);
    }

    private static void silence() {
        the.says("SILENCED: how many EFFECTS are SILENT that were not. NO: none is.", """
            silence() = NO   count(9) = 0
            laid d2,0,0;d2,1,0;e0,1,0,0;e0,2,0,1;e0,2,1,1;
            read(0, 1) = 0   tick(1) = 1   count(5) = 1   silence() = NO   count(9) = 2
            read(1, 1) = 0   tick(1) = 1   silence() = 1   silence() = NO   count(6) = 1
            tick(1) = 0   silence() = 1   count(6) = 2   silence() = NO
            reset() = 2   silence() = NO
            laid d2,0,0;e0,1,0,1;e0,1,0,1;e0,1,0,1;e0,1,0,1;e0,1,0,1;e0,1,0,1;
            read(0, 1) = 0   tick(1) = 1   silence() = 6   count(6) = 6   count(11) = 0   effect(5, 7) = 1
            """);
    }

    private static void reset() {
        the.says("PUT BACK: how many DEVICES were in FIRE. NO: none is, and no EFFECT is ON.", ""
            + "reset() = NO   read(0, 99) = 0   tick(1) = 0   device(0, 6) = 1   reset() = NO   device(0, 6) = 1   count(9) = 2\n"
            + "tick(2) = 1   reset() = 1   reset() = NO\n"
            + "laid d2,0,0;\n"
            + "read(0, 1) = 0   tick(1) = 1   count(5) = 0   reset() = 1   reset() = NO\n"
            + "laid " + TWELVE_BUTTONS + "\n"
            + "read(0, 1) = 0   read(1, 1) = 0   read(2, 1) = 0   read(3, 1) = 0   read(4, 1) = 0   read(5, 1) = 0\n"
            + "read(6, 1) = 0   read(7, 1) = 0   read(8, 1) = 0   read(9, 1) = 0   read(10, 1) = 0   read(11, 1) = 0\n"
            + "tick(1) = 12   wire(0, 1) = 0   wire(12, 1) = 0   reset() = 12   count(3) = 0\n");
    }

    private static void undo() {
        the.says("`int undo()`: UNDONE: how many more can be. NO.", """
            undo() = NO   read(0, 1) = 0   undo() = 0   undo() = NO   device(0, 3) = 0
            8 times tick(1) = 0
            undo() = 5   undo() = 4   undo() = 3   undo() = 2   undo() = 1   undo() = 0   undo() = NO   count(7) = 2
            read(9, 1) = BAD   read(0, 0) = NO   tick(51) = BAD   wire(0, 0) = NO   day(1) = NO   silence() = NO   reset() = NO
            count(9) = 0   undo() = NO
            """);
    }

    private static void device() {
        the.says("Of a DEVICE: KIND (what = 0), ZONE (1), ISOLATOR (2), READING (3), BASE (4), VALUE (5), COUNT (6)", """
            device(-1, 0) = BAD   device(8, 0) = BAD   device(0, -1) = BAD   device(0, 9) = BAD   device(8, 9) = BAD
            laid d0,5,1;t20,40,9,1;
            read(0, 3) = 0   tick(3) = 0   read(0, 50) = 3   tick(2) = 0
            device(0, 0) = 0   device(0, 1) = 5   device(0, 2) = 1   device(0, 3) = 50   device(0, 4) = 3   device(0, 5) = 47
            device(0, 6) = 2   device(0, 7) = 2   device(0, 8) = 3
            """);
        the.says("3 in FIRE, else 2 if VALUE is ALARM or more, else 1 if it is PRE or more, else 0 (7", """
            laid d0,0,0;d1,0,0;t20,40,0,9;
            device(0, 7) = 0   read(0, 19) = 0   device(0, 7) = 0   read(0, 20) = 19   device(0, 7) = 1
            read(0, 39) = 20   device(0, 7) = 1   read(0, 40) = 39   device(0, 7) = 2   read(0, 99) = 40   device(0, 7) = 2
            read(1, 19) = 0   device(1, 7) = 0   read(1, 20) = 19   device(1, 7) = 1
            read(1, 39) = 20   device(1, 7) = 1   read(1, 40) = 39   device(1, 7) = 2
            tick(1) = 2   device(0, 7) = 3   device(1, 7) = 3   read(0, 0) = 99   read(1, 0) = 40   device(0, 7) = 3   device(1, 7) = 3
            reset() = 2   device(0, 7) = 0   device(1, 7) = 0
            """);
        the.says("of a BUTTON, a SOUNDER that is not in FIRE 0)", """
            laid d2,0,0;d3,0,0;t1,2,0,9;
            read(0, 99) = 0   read(1, 99) = 0   device(0, 7) = 0   device(1, 7) = 0   device(0, 5) = 99   device(1, 5) = 99
            tick(1) = 1   device(0, 7) = 3   device(1, 7) = 0
            """);
        the.says("ends that REACH it (8; 1 A, 2 B, together). BAD.", """
            laid d0,0,0;d0,0,0;
            device(0, 8) = 3   wire(1, 1) = 0   device(0, 8) = 1   device(1, 8) = 2   wire(0, 1) = 0   device(0, 8) = 0
            """);
    }

    private static void stop() {
        the.says("What STOPS an end (1 A, 2 B) ahead of a DEVICE: by what (what = 0; 0: the end REACHES it), the WIRE (1; NONE: it "
            + "does)", """
            stop(-1, 1, 0) = BAD   stop(8, 1, 0) = BAD   stop(0, 0, 0) = BAD   stop(0, 3, 0) = BAD   stop(0, 1, -1) = BAD
            stop(0, 1, 3) = BAD   stop(0, 1, 0) = 0   stop(0, 2, 0) = 0   stop(0, 1, 1) = NONE   stop(7, 2, 1) = NONE
            wire(0, 1) = 0   stop(0, 1, 0) = 1   stop(0, 1, 1) = 0   stop(0, 2, 0) = 0
            wire(0, 2) = 1   stop(0, 1, 0) = 2   stop(0, 1, 1) = 0
            wire(0, 0) = 2   wire(8, 1) = 0   stop(7, 2, 0) = 1   stop(7, 2, 1) = 8   stop(7, 1, 0) = 0
            """);
        the.says("the lowest WIRE that is SHORT in the STRETCH of that (2; NONE: the end REACHES it, the STRETCH is not DEAD). BAD.",
            """
            stop(0, 1, 2) = NONE   wire(4, 1) = 0   stop(4, 1, 2) = NONE   wire(3, 2) = 0   stop(4, 1, 1) = 1   stop(4, 1, 2) = 3
            wire(2, 2) = 0   stop(4, 1, 2) = 2   wire(1, 2) = 0   stop(4, 1, 2) = 1   stop(4, 2, 2) = NONE   stop(3, 2, 2) = NONE
            wire(6, 2) = 0   stop(3, 2, 1) = 6   stop(3, 2, 2) = 6   wire(5, 2) = 0   stop(3, 2, 2) = 5
            new
            wire(1, 1) = 0   stop(1, 1, 2) = NONE   wire(0, 2) = 0   stop(0, 1, 2) = 0   stop(0, 2, 2) = NONE
            wire(0, 0) = 2   wire(7, 2) = 0   stop(1, 1, 2) = NONE   stop(1, 2, 1) = 8   stop(1, 2, 2) = 7
            """);
    }

    private static void wireOf() {
        the.says("Of a WIRE: how it is (what = 0), its STRETCH (1; 0 the first one, then the next, ..)", """
            wireOf(-1, 0) = BAD   wireOf(9, 0) = BAD   wireOf(0, -1) = BAD   wireOf(0, 3) = BAD
            wireOf(0, 1) = 0   wireOf(1, 1) = 1   wireOf(3, 1) = 1   wireOf(4, 1) = 2   wireOf(6, 1) = 2   wireOf(7, 1) = 3
            wireOf(8, 1) = 3   wireOf(8, 0) = 0   wire(8, 1) = 0   wireOf(8, 0) = 1   wire(8, 2) = 1   wireOf(8, 0) = 2
            """);
        the.says("how many DEVICES were LOST, were it SHORT (2). BAD.", """
            wireOf(0, 2) = 0   wireOf(1, 2) = 2   wireOf(3, 2) = 2   wireOf(6, 2) = 2   wireOf(7, 2) = 1   wireOf(8, 2) = 1
            wireOf(0, 0) = 0   count(2) = 0
            wire(0, 1) = 0   wireOf(0, 2) = 0   wireOf(1, 2) = 3   wireOf(8, 2) = 8   wire(0, 2) = 1   wireOf(0, 2) = 0
            wire(8, 1) = 0   wireOf(0, 2) = 8   wireOf(8, 2) = 8   wireOf(4, 2) = 8
            laid d0,0,0;d0,0,0;d0,0,0;d0,0,0;d0,0,0;d0,0,0;d0,0,0;d0,0,0;d0,0,0;d0,0,0;d0,0,0;d0,0,0;
            wireOf(0, 2) = 12   wireOf(12, 2) = 12
            laid d0,0,1;
            wireOf(0, 2) = 0   wireOf(1, 2) = 0
            """);
    }

    private static void worst() {
        the.says("WORST: the WIRE (what = 0), how many were LOST then (1). BAD; NONE: no WIRE is whole.", """
            worst(-1) = BAD   worst(2) = BAD   worst(0) = 1   worst(1) = 2
            laid d0,0,1;
            wire(0, 1) = 0   worst(0) = 1   worst(1) = 1   wire(1, 1) = 0   worst(0) = NONE   worst(1) = NONE   worst(2) = BAD
            wire(1, 2) = 1   worst(0) = NONE   wire(0, 2) = 1   worst(0) = NONE   wire(0, 0) = 2   worst(0) = 0   worst(1) = 1
            """);
    }

    private static void help() {
        the.says("HELP: the DEVICE (what = 0), how many WORST loses then (1). BAD; NONE: no WIRE is whole, each DEVICE has an ISOLATOR.",
            """
            help(-1) = BAD   help(2) = BAD   help(0) = 1   help(1) = 2
            laid d0,0,0;
            help(0) = 0   help(1) = 0
            wire(0, 1) = 0   help(0) = 0   help(1) = 1   wire(1, 2) = 0   help(0) = NONE   help(1) = NONE   help(2) = BAD
            laid d0,0,1;d0,0,1;
            help(0) = NONE   help(1) = NONE   help(2) = BAD   worst(0) = 0
            """);
    }

    private static void zone() {
        the.says("Of a ZONE: 1 if it is in FIRE, else 0 (what = 0), SINCE (1; NONE: it is not), LEAVE (2), its DEVICES (3), those "
            + "LOST (4), those in FIRE (5). BAD.", """
            zone(-1, 0) = BAD   zone(6, 0) = BAD   zone(0, -1) = BAD   zone(0, 6) = BAD   zone(6, 6) = BAD
            zone(5, 0) = 0   zone(5, 1) = NONE   zone(5, 2) = 0   zone(5, 3) = 0   zone(5, 4) = 0   zone(5, 5) = 0
            laid d2,5,1;d2,5,0;d2,5,0;d2,0,0;
            read(0, 1) = 0   read(1, 1) = 0   tick(2) = 2   wire(1, 2) = 0
            zone(5, 0) = 1   zone(5, 1) = 1   zone(5, 2) = 1   zone(5, 3) = 3   zone(5, 4) = 2   zone(5, 5) = 2
            zone(0, 0) = 0   zone(0, 1) = NONE   zone(0, 2) = 0   zone(0, 3) = 1   zone(0, 4) = 1   zone(0, 5) = 0
            """);
    }

    private static void effect() {
        the.says("Of an EFFECT: KIND (what = 0), its set (1), DELAY (2), 1 if it is a SOUND, else 0 (3), 1 if it is WANTED now (4), "
            + "WAIT (5), 1 if ON (6), 1 if SILENT (7). BAD.", """
            effect(-1, 0) = BAD   effect(4, 0) = BAD   effect(0, -1) = BAD   effect(0, 8) = BAD   effect(4, 8) = BAD
            laid d2,0,0;e2,63,9,0;e1,1,2,1;
            read(0, 1) = 0   effect(1, 4) = 0   tick(1) = 1
            effect(0, 0) = 2   effect(0, 1) = 63   effect(0, 2) = 9   effect(0, 3) = 0   effect(0, 4) = 0   effect(0, 5) = 0
            effect(1, 0) = 1   effect(1, 1) = 1   effect(1, 2) = 2   effect(1, 3) = 1   effect(1, 4) = 1   effect(1, 5) = 1
            effect(1, 6) = 0   effect(1, 7) = 0   tick(2) = 0   effect(1, 5) = 3   effect(1, 6) = 1   effect(1, 7) = 0
            silence() = 1   effect(1, 6) = 1   effect(1, 7) = 1   effect(0, 6) = 0   effect(0, 7) = 0
            laid d0,0,0;
            effect(0, 0) = BAD   effect(-1, 0) = BAD
            """);
    }

    private static void count() {
        the.says("How many: 0 DEVICES, 1 EFFECTS, 2 LOST, 3 in FIRE, 4 ZONES in FIRE, 5 EFFECTS that are ON, 6 SILENT, 7 the TICK (how "
            + "many there were), 8 1 if it is DAY, else 0, 9 changes that can be UNDONE, 10 letters of THE TEXT, 11 SOUNDS that sound "
            + "(ON, not SILENT). BAD.", """
            count(-1) = BAD   count(12) = BAD
            laid d2,0,0;d2,0,1;d2,1,1;d0,2,0;e0,1,0,1;e0,1,0,0;e0,1,2,1;e0,4,0,1;
            read(0, 1) = 0   read(1, 1) = 0   read(2, 1) = 0   tick(2) = 3   silence() = 1   tick(1) = 0   wire(4, 2) = 0
            count(0) = 4   count(1) = 4   count(2) = 1   count(3) = 3   count(4) = 2   count(5) = 3   count(6) = 1   count(7) = 3
            count(8) = 1   count(9) = 6   count(10) = 64   count(11) = 1   day(0) = 3   count(8) = 0
            """);
    }

    private static void countAtMost() {
        StringBuilder script = new StringBuilder("laid ");
        for (int i = 0; i < 12; i++) {
            script.append("d2,").append(i % 6).append(",0;");
        }
        script.append("e0,63,0,1;".repeat(6)).append('\n');
        for (int i = 0; i < 12; i++) {
            script.append("read(").append(i).append(", 1) = 0\n");
        }
        script.append("tick(1) = 12   count(0) = 12   count(1) = 6   count(3) = 12   count(4) = 6   count(5) = 6   count(11) = 6\n")
            .append("silence() = 6   count(6) = 6   count(11) = 0   wire(0, 2) = 0   count(2) = 12   count(9) = 6\n");
        the.says("11 SOUNDS that sound (ON, not SILENT).", script.toString());
    }
}
