/** For each promise of the document: ordinary inputs, the edges that it names, wrong inputs. */
public final class PromiseTests {
    private static final int BAD = -1, NO = -2, FULL = -3, NONE = -4;
    private static final int LEAST = Integer.MIN_VALUE, MOST = Integer.MAX_VALUE;
    private static final Check check = new Check("PromiseTests");

    private PromiseTests() {
    }

    public static void main(String[] args) {
        promise1NewObject();
        promise2Write();
        promise3Wipe();
        promise4FaultOfItems();
        promise4FaultOfNumbers();
        promise4FaultOfTooMany();
        promise5Lay();
        promise5LayAnew();
        promise5Defaults();
        promise6Read();
        promise7Wire();
        promise8Day();
        promise9Tick();
        promise9TickOfAFullRing();
        promise9Bases();
        promise9Lost();
        promise9Effects();
        promise10Silence();
        promise11Reset();
        promise12Undo();
        promise12UndoOfEachChange();
        promise13Device();
        promise13Level();
        promise14Stop();
        promise14StopInDeadStretch();
        promise15WireOf();
        promise16Worst();
        promise17Help();
        promise18Zone();
        promise18Leave();
        promise19Effect();
        promise20Count();
        check.end();
    }

    private static void due(String what, int got, int want) {
        check.due(what, got, want);
    }

    private static void writeAll(AlarmRing ring, String text) {
        for (int k = 0; k < text.length(); k++) {
            ring.write(text.charAt(k));
        }
    }

    private static AlarmRing laid(String text) {
        AlarmRing ring = new AlarmRing();
        writeAll(ring, text);
        ring.lay();
        return ring;
    }

    private static int faultOf(String text) {
        AlarmRing ring = new AlarmRing();
        writeAll(ring, text);
        return ring.fault();
    }

    private static void fault(String text, int place) {
        due("1/4 fault of '" + text + "'", faultOf(text), place);
    }

    private static void promise1NewObject() {
        due("1 BAD", AlarmRing.BAD, BAD);
        due("1 NO", AlarmRing.NO, NO);
        due("1 FULL", AlarmRing.FULL, FULL);
        due("1 NONE", AlarmRing.NONE, NONE);
        AlarmRing ring = new AlarmRing();
        int[] counts = {8, 4, 0, 0, 0, 0, 0, 0, 1, 0, 0, 0};
        for (int what = 0; what < counts.length; what++) {
            due("1 count(" + what + ")", ring.count(what), counts[what]);
        }
        int[] kinds = {0, 1, 2, 0, 3, 0, 1, 0};
        int[] zones = {0, 0, 1, 1, 2, 2, 3, 3};
        int[] isolators = {1, 0, 0, 1, 0, 0, 1, 0};
        for (int i = 0; i < 8; i++) {
            due("1 KIND of " + i, ring.device(i, 0), kinds[i]);
            due("1 ZONE of " + i, ring.device(i, 1), zones[i]);
            due("1 ISOLATOR of " + i, ring.device(i, 2), isolators[i]);
            for (int what = 3; what <= 7; what++) {
                due("1 device(" + i + ", " + what + ")", ring.device(i, what), 0);
            }
        }
        int[][] effects = {{0, 15, 0, 1}, {2, 15, 3, 0}, {1, 3, 2, 0}, {0, 4, 0, 1}};
        for (int k = 0; k < 4; k++) {
            for (int what = 0; what < 8; what++) {
                due("1 effect(" + k + ", " + what + ")", ring.effect(k, what), what < 4 ? effects[k][what] : 0);
            }
        }
        for (int w = 0; w <= 8; w++) {
            due("1 WIRE " + w, ring.wireOf(w, 0), 0);
        }
        due("1 no change yet", ring.undo(), NO);
        AlarmRing other = new AlarmRing();
        ring.read(0, 9);
        due("1 objects are apart", other.device(0, 3), 0);
    }

    private static void promise2Write() {
        AlarmRing ring = new AlarmRing();
        due("2 write(31)", ring.write(31), BAD);
        due("2 write(127)", ring.write(127), BAD);
        due("2 write(-1)", ring.write(-1), BAD);
        due("2 write(least)", ring.write(LEAST), BAD);
        due("2 write(most)", ring.write(MOST), BAD);
        due("2 write(65536 + 'd')", ring.write(65536 + 'd'), BAD);
        due("2 nothing was written", ring.count(10), 0);
        due("2 write(32)", ring.write(32), 1);
        due("2 write(126)", ring.write(126), 2);
        for (int k = 3; k <= 200; k++) {
            due("2 letter " + k, ring.write('a'), k);
        }
        due("2 letter 201", ring.write('a'), FULL);
        due("2 BAD comes ahead of FULL", ring.write(31), BAD);
        due("2 still 200", ring.count(10), 200);
        due("2 writing lays nothing", ring.count(0), 8);
        due("2 writing is no change", ring.count(9), 0);
    }

    private static void promise3Wipe() {
        AlarmRing ring = new AlarmRing();
        due("3 empty", ring.wipe(), 0);
        writeAll(ring, "d9;");
        due("3 of three", ring.wipe(), 3);
        due("3 again", ring.wipe(), 0);
        due("3 count", ring.count(10), 0);
        due("3 no FAULT left", ring.fault(), NONE);
        for (int k = 0; k < 200; k++) {
            ring.write('x');
        }
        due("3 of a full one", ring.wipe(), 200);
        due("3 room again", ring.write('d'), 1);
        ring.read(0, 5);
        ring.wipe();
        due("3 what is laid stays", ring.device(0, 3), 5);
        due("3 can still be UNDONE", ring.count(9), 1);
    }

    private static void promise4FaultOfItems() {
        fault("", NONE);
        fault("d0,0,0;", NONE);
        fault("v3;", NONE);
        fault("d3,5,1;e2,63,9,1;t90,99,9,9;v9;", NONE);
        fault("d00,05,01;e02,01,09,00;t01,02,00,01;v01;", NONE);
        fault(";", 0);
        fault("d", 0);
        fault("d0,0,0", 0);
        fault("d0,0,0;;", 7);
        fault("d0,0,0; d0,0,0;", 7);
        fault(" d0,0,0;", 0);
        fault("D0,0,0;", 0);
        fault("x3;", 0);
        fault("d0,0;", 0);
        fault("d0,0,0,0;", 0);
        fault("e0,1,0;", 0);
        fault("e0,1,0,0,0;", 0);
        fault("t1,2,0;", 0);
        fault("t1,2,0,1,1;", 0);
        fault("v;", 0);
        fault("v1,1;", 0);
        fault("d0;0;0;", 0);
        fault("d0,0,0,", 0);
        fault("d,0,0;", 0);
        fault("d0,,0;", 0);
        fault("d-1,0,0;", 0);
        fault("d0,0,0;v3", 7);
        fault("d0,0,0;v3;e", 10);
        fault("v3;v0;x;", 3);
        fault("v3:", 0);
        fault("v/;", 0);
        fault("v:;", 0);
    }

    private static void promise4FaultOfNumbers() {
        fault("d4,0,0;", 0);
        fault("d0,6,0;", 0);
        fault("d0,0,2;", 0);
        fault("d000,0,0;", 0);
        fault("d10,0,0;", 0);
        fault("e3,1,0,0;", 0);
        fault("e0,0,0,0;", 0);
        fault("e0,64,0,0;", 0);
        fault("e0,063,0,0;", 0);
        fault("e0,1,10,0;", 0);
        fault("e0,1,0,2;", 0);
        fault("t0,1,0,1;", 0);
        fault("t91,99,0,1;", 0);
        fault("t90,90,0,1;", 0);
        fault("t90,91,0,1;", NONE);
        fault("t1,1,0,1;", 0);
        fault("t1,100,0,1;", 0);
        fault("t1,2,10,1;", 0);
        fault("t1,2,0,0;", 0);
        fault("t1,2,0,10;", 0);
        fault("v0;", 0);
        fault("v10;", 0);
        fault("t5,6,0,1;t6,5,0,1;", 9);
        AlarmRing ring = new AlarmRing();
        writeAll(ring, "d0,0,9;");
        due("4 told twice the same", ring.fault(), 0);
        due("4 told twice the same", ring.fault(), 0);
        due("4 the laid ring stays", ring.count(0), 8);
    }

    private static void promise4FaultOfTooMany() {
        String twelve = "d0,0,0;".repeat(12);
        fault(twelve, NONE);
        fault(twelve + "d0,0,0;", 84);
        fault(twelve + "v1;d0,0,0;", 87);
        String six = "e0,1,0,0;".repeat(6);
        fault(six, NONE);
        fault(six + "e0,1,0,0;", 54);
        fault(twelve + six, NONE);
        fault("v1;".repeat(20) + "t1,2,0,1;".repeat(9), NONE);
    }

    private static void promise5Lay() {
        AlarmRing ring = new AlarmRing();
        ring.read(0, 7);
        due("5 an empty TEXT", ring.lay(), NO);
        writeAll(ring, "e0,1,0,0;v3;");
        due("5 no DEVICE", ring.lay(), NO);
        writeAll(ring, "d0,0,0;x");
        due("5 a FAULT", ring.lay(), NO);
        due("5 nothing changed", ring.count(0), 8);
        due("5 nothing changed in READINGS", ring.device(0, 3), 7);
        due("5 nothing changed for undo", ring.count(9), 1);
        due("5 THE TEXT stays", ring.count(10), 20);
        ring.wipe();
        writeAll(ring, "d1,4,0;d2,5,1;e2,48,1,1;");
        due("5 lay", ring.lay(), 2);
        due("5 THE TEXT stays", ring.count(10), 24);
        due("5 lay again", ring.lay(), 2);
        due("5 DEVICES", ring.count(0), 2);
        due("5 EFFECTS", ring.count(1), 1);
        due("5 no DEVICE 2", ring.device(2, 0), BAD);
        due("5 WIRE 2", ring.wireOf(2, 0), 0);
        due("5 no WIRE 3", ring.wireOf(3, 0), BAD);
        due("5 no EFFECT 1", ring.effect(1, 0), BAD);
        ring.read(0, 90);
        ring.read(1, 1);
        ring.tick(2);
        ring.silence();
        ring.wire(1, 1);
        ring.wire(2, 2);
        ring.day(0);
        due("5 FIRE ahead of it", ring.count(3), 2);
        due("5 lay", ring.lay(), 2);
        int[] counts = {2, 1, 0, 0, 0, 0, 0, 0, 1, 0, 24, 0};
        for (int what = 0; what < counts.length; what++) {
            due("5 count(" + what + ")", ring.count(what), counts[what]);
        }
        due("5 READING", ring.device(0, 3), 0);
        due("5 WIRE 1 whole", ring.wireOf(1, 0), 0);
        due("5 WIRE 2 whole", ring.wireOf(2, 0), 0);
        due("5 WAIT", ring.effect(0, 5), 0);
        due("5 none can be UNDONE", ring.undo(), NO);
        AlarmRing full = laid("d0,0,1;".repeat(12));
        due("5 twelve", full.count(0), 12);
        due("5 DEVICE 11", full.device(11, 2), 1);
        due("5 WIRE 12", full.wireOf(12, 1), 12);
        AlarmRing bases = laid("d0,0,0;t30,60,5,1;");
        bases.read(0, 20);
        bases.tick(3);
        bases.read(0, 99);
        bases.tick(2);
        due("5 BASE ahead of it", bases.device(0, 4), 3);
        due("5 COUNT ahead of it", bases.device(0, 6), 2);
        bases.lay();
        due("5 BASE", bases.device(0, 4), 0);
        due("5 COUNT", bases.device(0, 6), 0);
    }

    private static void promise5LayAnew() {
        AlarmRing ring = laid("d0,0,1;d0,0,1;e0,1,0,1;");
        ring.wipe();
        writeAll(ring, "d0,0,0;d0,0,0;e0,1,0,0;");
        due("5 lay", ring.lay(), 2);
        due("5 no ISOLATOR of the one ahead", ring.device(0, 2) + ring.device(1, 2), 0);
        due("5 no SOUND of the one ahead", ring.effect(0, 3), 0);
        ring.wipe();
        writeAll(ring, "d1,5,1;d9");
        due("5 FAULT of another TEXT", ring.fault(), 7);
        due("5 what is laid stays", ring.count(0), 2);
        due("5 what is laid stays", ring.device(0, 1), 0);
        due("5 lay of a FAULT", ring.lay(), NO);
        due("5 what is laid stays", ring.count(1), 1);
        due("5 what is laid stays", ring.device(0, 0), 0);
        ring.wipe();
        writeAll(ring, "d0,0,0;d0,0,0;d0,0,0;");
        due("5 lay", ring.lay(), 3);
        due("5 no EFFECT of the one ahead", ring.count(1), 0);
    }

    private static void promise5Defaults() {
        AlarmRing ring = laid("d0,0,0;d0,1,0;");
        ring.read(0, 59);
        ring.read(1, 60);
        due("5 PRE 30", ring.device(0, 7), 1);
        due("5 ALARM 60", ring.device(1, 7), 2);
        ring.read(0, 30);
        due("5 PRE 30", ring.device(0, 7), 1);
        ring.read(0, 29);
        due("5 below PRE 30", ring.device(0, 7), 0);
        due("5 CONFIRM 2", ring.tick(2), 0);
        due("5 CONFIRM 2", ring.tick(1), 1);
        due("5 B 4", ring.device(0, 4), 0);
        ring.tick(1);
        due("5 B 4", ring.device(0, 4), 1);
        ring.tick(1);
        due("5 E 3", ring.zone(0, 2), 0);
        ring.tick(1);
        due("5 E 3", ring.zone(0, 2), 2);
        AlarmRing last = laid("t1,2,0,1;v1;d1,0,0;t10,20,0,2;v2;");
        last.read(0, 19);
        due("5 the last t counts", last.device(0, 7), 1);
        last.read(0, 20);
        last.tick(2);
        due("5 the last v counts", last.zone(1, 2), 0);
        last.tick(1);
        due("5 the last v counts", last.zone(1, 2), 2);
        last.wipe();
        writeAll(last, "d1,0,0;");
        last.lay();
        last.read(0, 59);
        due("5 of an earlier TEXT nothing stays", last.device(0, 7), 1);
    }

    private static void promise6Read() {
        AlarmRing ring = new AlarmRing();
        due("6 read(-1, 1)", ring.read(-1, 1), BAD);
        due("6 read(8, 1)", ring.read(8, 1), BAD);
        due("6 read(0, -1)", ring.read(0, -1), BAD);
        due("6 read(0, 100)", ring.read(0, 100), BAD);
        due("6 read(most, least)", ring.read(MOST, LEAST), BAD);
        due("6 it is so", ring.read(0, 0), NO);
        due("6 nothing to undo", ring.count(9), 0);
        due("6 read(0, 99)", ring.read(0, 99), 0);
        due("6 read(0, 98)", ring.read(0, 98), 99);
        due("6 it is so", ring.read(0, 98), NO);
        due("6 read(7, 1)", ring.read(7, 1), 0);
        due("6 read(4, 3) of a SOUNDER", ring.read(4, 3), 0);
        due("6 told", ring.device(0, 3), 98);
        due("6 told", ring.device(7, 3), 1);
        due("6 told", ring.device(1, 3), 0);
        due("6 four changes", ring.count(9), 4);
        due("6 no FIRE without a TICK", ring.count(3), 0);
    }

    private static void promise7Wire() {
        AlarmRing ring = new AlarmRing();
        due("7 wire(-1, 1)", ring.wire(-1, 1), BAD);
        due("7 wire(9, 1)", ring.wire(9, 1), BAD);
        due("7 wire(0, -1)", ring.wire(0, -1), BAD);
        due("7 wire(0, 3)", ring.wire(0, 3), BAD);
        due("7 wire(least, most)", ring.wire(LEAST, MOST), BAD);
        due("7 it is so", ring.wire(0, 0), NO);
        due("7 to CUT", ring.wire(8, 1), 0);
        due("7 it is so", ring.wire(8, 1), NO);
        due("7 CUT to SHORT", ring.wire(8, 2), 1);
        due("7 it is so", ring.wire(8, 2), NO);
        due("7 SHORT to CUT", ring.wire(8, 1), 2);
        due("7 CUT to whole", ring.wire(8, 0), 1);
        due("7 whole to SHORT", ring.wire(8, 2), 0);
        due("7 SHORT to whole", ring.wire(8, 0), 2);
        due("7 whole", ring.wireOf(8, 0), 0);
        due("7 the last 6", ring.count(9), 6);
    }

    private static void promise8Day() {
        AlarmRing ring = new AlarmRing();
        due("8 day(2)", ring.day(2), BAD);
        due("8 day(-1)", ring.day(-1), BAD);
        due("8 it is so", ring.day(1), NO);
        due("8 NIGHT", ring.day(0), 0);
        due("8 it is so", ring.day(0), NO);
        due("8 told", ring.count(8), 0);
        ring.read(2, 1);
        ring.tick(1);
        due("8 DAY, one EFFECT ON", ring.day(1), 1);
        ring.read(1, 99);
        ring.tick(1);
        due("8 NIGHT alone sets none ON", ring.day(0), 1);
        ring.tick(1);
        due("8 but a TICK by NIGHT does", ring.day(1), 3);
        due("8 told", ring.count(8), 1);
    }

    private static void promise9Tick() {
        AlarmRing ring = new AlarmRing();
        due("9 tick(0)", ring.tick(0), BAD);
        due("9 tick(51)", ring.tick(51), BAD);
        due("9 tick(-1)", ring.tick(-1), BAD);
        due("9 tick(most)", ring.tick(MOST), BAD);
        due("9 no TICK", ring.count(7), 0);
        for (int k = 0; k < 199; k++) {
            due("9 tick(50)", ring.tick(50), 0);
        }
        due("9 more than 9999", ring.tick(50), NO);
        due("9 9950", ring.count(7), 9950);
        due("9 up to 9999", ring.tick(49), 0);
        due("9 9999", ring.count(7), 9999);
        due("9 more than 9999", ring.tick(1), NO);
        due("9 BAD ahead of NO", ring.tick(0), BAD);

        AlarmRing kinds = laid("d0,0,0;d1,1,0;d2,2,0;d3,3,0;d0,4,0;t20,40,2,9;");
        for (int i = 0; i < 4; i++) {
            kinds.read(i, 40);
        }
        kinds.read(4, 39);
        due("9 HEAT, BUTTON at once", kinds.tick(1), 2);
        due("9 COUNT", kinds.device(0, 6), 1);
        due("9 SMOKE not yet", kinds.tick(1), 0);
        due("9 COUNT is CONFIRM", kinds.device(0, 6), 2);
        due("9 SMOKE", kinds.tick(1), 1);
        due("9 COUNT goes on", kinds.device(0, 6), 3);
        due("9 COUNT of HEAT", kinds.device(1, 6), 0);
        due("9 a SOUNDER never", kinds.device(3, 7), 0);
        due("9 below ALARM", kinds.device(4, 6), 0);
        kinds.read(0, 39);
        kinds.read(1, 0);
        kinds.read(2, 0);
        due("9 none comes", kinds.tick(1), 0);
        due("9 COUNT is 0 again", kinds.device(0, 6), 0);
        due("9 FIRE from then on", kinds.count(3), 3);

        AlarmRing held = laid("d0,0,0;t20,40,2,9;");
        held.read(0, 50);
        held.tick(2);
        held.read(0, 0);
        held.tick(1);
        held.read(0, 50);
        due("9 held anew", held.tick(2), 0);
        due("9 all come in one call", held.tick(9), 1);
        due("9 told in that call alone", held.tick(9), 0);
        AlarmRing quick = laid("d0,0,0;t20,40,0,9;");
        quick.read(0, 40);
        due("9 CONFIRM 0", quick.tick(1), 1);
    }

    private static void promise9TickOfAFullRing() {
        AlarmRing ring = laid("d2,5,1;".repeat(12) + "e0,63,0,1;".repeat(6));
        for (int i = 0; i < 12; i++) {
            ring.read(i, 1);
        }
        due("9 twelve come", ring.tick(1), 12);
        due("9 the last one", ring.device(11, 7), 3);
        due("9 six EFFECTS are ON", ring.count(5), 6);
        due("9 six are SILENT", ring.silence(), 6);
        due("9 of ZONE 5 twelve are in FIRE", ring.zone(5, 5), 12);
        ring.wire(0, 1);
        ring.wire(12, 2);
        due("9 all are LOST", ring.count(2), 12);
        due("9 the last 6", ring.undo(), 5);
        due("9 none is LOST", ring.count(2), 0);
    }

    private static void promise9Bases() {
        AlarmRing ring = laid("d0,0,0;d1,0,0;d2,0,0;d3,0,0;t20,40,0,3;");
        ring.read(0, 19);
        ring.read(1, 20);
        ring.read(3, 10);
        ring.tick(2);
        due("9 not yet", ring.device(0, 4), 0);
        ring.tick(1);
        due("9 the third", ring.device(0, 4), 1);
        due("9 VALUE is PRE", ring.device(1, 4), 0);
        due("9 a SOUNDER has none", ring.device(3, 4), 0);
        ring.read(1, 19);
        ring.tick(3);
        due("9 HEAT goes on too", ring.device(1, 4), 1);
        due("9 BASE 2", ring.device(0, 4), 2);
        ring.read(0, 2);
        ring.tick(3);
        due("9 it is there", ring.device(0, 4), 2);
        ring.read(0, 0);
        due("9 VALUE is 0 at least", ring.device(0, 5), 0);
        ring.tick(3);
        due("9 downwards", ring.device(0, 4), 1);
        ring.tick(9);
        due("9 not below READING", ring.device(0, 4), 0);

        AlarmRing high = laid("d0,0,0;t50,99,0,1;");
        high.read(0, 49);
        high.tick(39);
        due("9 BASE 39", high.device(0, 4), 39);
        high.tick(1);
        due("9 BASE 40", high.device(0, 4), 40);
        high.tick(5);
        due("9 40 at most", high.device(0, 4), 40);
        high.read(0, 39);
        high.tick(1);
        due("9 from 40 down", high.device(0, 4), 39);

        AlarmRing moved = laid("d1,0,0;t10,20,0,1;");
        moved.read(0, 9);
        moved.tick(5);
        moved.read(0, 24);
        due("9 VALUE is READING less BASE", moved.tick(1), 0);
        due("9 VALUE 19", moved.device(0, 5), 19);
        moved.read(0, 25);
        due("9 VALUE 20 burns", moved.tick(1), 1);
        AlarmRing number = laid("d0,0,0;t20,40,0,4;");
        number.tick(3);
        number.read(0, 5);
        number.tick(1);
        due("9 by the number of the TICK", number.device(0, 4), 1);
    }

    private static void promise9Lost() {
        AlarmRing ring = laid("d0,0,0;d1,0,0;d2,1,0;t20,40,1,1;");
        ring.read(0, 50);
        ring.tick(1);
        due("9 COUNT 1", ring.device(0, 6), 1);
        ring.wire(0, 2);
        ring.read(1, 99);
        ring.read(2, 1);
        due("9 LOST ones do not come", ring.tick(5), 0);
        due("9 COUNT stays", ring.device(0, 6), 1);
        ring.read(1, 5);
        ring.tick(1);
        due("9 BASE stays", ring.device(1, 4), 0);
        due("9 TICKS go on", ring.count(7), 7);
        ring.wire(0, 1);
        due("9 by end B all are REACHED", ring.tick(1), 2);
        due("9 BASE goes on", ring.device(1, 4), 1);
        ring.wire(3, 1);
        ring.read(2, 0);
        ring.tick(4);
        due("9 LOST in FIRE stays so", ring.device(2, 7), 3);
        due("9 its ZONE too", ring.zone(1, 0), 1);
        due("9 SINCE goes on", ring.zone(1, 1), 4);
    }

    private static void promise9Effects() {
        AlarmRing ring = laid("d2,0,0;d2,1,0;d2,2,0;e0,7,0,1;e1,3,2,0;e2,7,1,0;e0,4,9,1;e2,1,0,0;e1,12,0,0;");
        ring.read(2, 1);
        ring.tick(1);
        due("9 ANY", ring.effect(0, 6), 1);
        due("9 one ZONE is not TWO", ring.effect(2, 5), 0);
        due("9 a set of one is never TWO", ring.effect(4, 4), 0);
        due("9 ALL wants ZONE 3 too", ring.effect(5, 4), 0);
        ring.read(0, 1);
        ring.tick(1);
        due("9 TWO", ring.effect(2, 5), 1);
        due("9 TWO waits", ring.effect(2, 6), 0);
        due("9 ALL not yet", ring.effect(1, 5), 0);
        ring.read(1, 1);
        ring.tick(1);
        due("9 TWO is ON", ring.effect(2, 6), 1);
        due("9 three are TWO or more", ring.effect(2, 4), 1);
        due("9 ALL waits", ring.effect(1, 5), 1);
        ring.tick(1);
        due("9 WAIT is its DELAY", ring.effect(1, 6), 0);
        ring.tick(1);
        due("9 ALL is ON", ring.effect(1, 6), 1);
        due("9 WAIT stays where it is ON", ring.effect(2, 5), 2);
        ring.tick(4);
        due("9 WAIT 9", ring.effect(3, 5), 9);
        due("9 not ON", ring.effect(3, 6), 0);
        ring.tick(1);
        due("9 WAIT 10", ring.effect(3, 5), 10);
        due("9 ON", ring.effect(3, 6), 1);
        due("9 never", ring.effect(4, 6) + ring.effect(5, 6), 0);

        AlarmRing night = laid("d2,0,0;e0,1,9,0;e0,2,9,0;");
        night.day(0);
        night.tick(1);
        due("9 by NIGHT none without FIRE", night.count(5), 0);
        night.read(0, 1);
        night.tick(1);
        due("9 by NIGHT at once", night.effect(0, 6), 1);
        due("9 not what is not WANTED", night.effect(1, 6), 0);
        night.day(1);
        night.tick(1);
        due("9 by DAY it stays ON", night.effect(0, 6), 1);
    }

    private static void promise10Silence() {
        AlarmRing ring = laid("d2,0,0;d2,0,0;d2,1,0;e0,3,0,1;e0,3,0,0;e0,3,3,1;e0,2,0,1;");
        due("10 none is ON", ring.silence(), NO);
        due("10 nothing to undo", ring.count(9), 0);
        ring.read(0, 1);
        ring.tick(1);
        due("10 one SOUND", ring.silence(), 1);
        due("10 SILENT", ring.effect(0, 7), 1);
        due("10 no SOUND is not", ring.effect(1, 7), 0);
        due("10 still ON", ring.effect(0, 6), 1);
        due("10 no more", ring.silence(), NO);
        ring.tick(3);
        due("10 one that comes ON sounds", ring.effect(2, 7), 0);
        due("10 sounds", ring.count(11), 1);
        due("10 that one", ring.silence(), 1);
        due("10 two are", ring.count(6), 2);
        ring.read(1, 1);
        due("10 a DEVICE of the same ZONE", ring.tick(1), 1);
        due("10 wakes none", ring.count(6), 2);
        ring.read(2, 1);
        ring.tick(1);
        due("10 a new ZONE wakes all", ring.count(6), 0);
        due("10 three sound", ring.count(11), 3);
        due("10 three", ring.silence(), 3);
        ring.tick(5);
        due("10 SILENT stays", ring.count(6), 3);
    }

    private static void promise11Reset() {
        AlarmRing ring = laid("d0,0,0;d2,1,0;d0,2,0;d0,3,0;e0,63,0,1;e0,63,9,0;t20,40,1,1;");
        due("11 nothing", ring.reset(), NO);
        ring.read(0, 50);
        ring.tick(1);
        due("11 a COUNT alone", ring.reset(), NO);
        due("11 COUNT stays", ring.device(0, 6), 1);
        ring.read(1, 1);
        ring.read(2, 50);
        ring.read(3, 10);
        ring.tick(1);
        ring.tick(1);
        ring.silence();
        ring.wire(0, 2);
        due("11 LOST ones too", ring.reset(), 3);
        due("11 no FIRE", ring.count(3), 0);
        due("11 no ZONE", ring.count(4), 0);
        due("11 none ON", ring.count(5), 0);
        due("11 none SILENT", ring.count(6), 0);
        due("11 COUNT 0", ring.device(0, 6) + ring.device(2, 6), 0);
        due("11 WAIT 0", ring.effect(0, 5) + ring.effect(1, 5), 0);
        due("11 READING stays", ring.device(0, 3), 50);
        due("11 BASE stays", ring.device(3, 4), 2);
        due("11 TICKS stay", ring.count(7), 3);
        due("11 the WIRE stays", ring.wireOf(0, 0), 2);
        due("11 nothing more", ring.reset(), NO);
        ring.wire(0, 0);
        due("11 a BUTTON comes again", ring.tick(1), 1);
        due("11 SINCE anew", ring.zone(1, 1), 0);
        due("11 held anew", ring.tick(1), 2);
        ring.day(0);
        ring.reset();
        due("11 NIGHT stays", ring.count(8), 0);
    }

    private static void promise12Undo() {
        AlarmRing ring = new AlarmRing();
        due("12 none", ring.undo(), NO);
        for (int v = 1; v <= 8; v++) {
            ring.read(0, v);
        }
        due("12 six", ring.count(9), 6);
        for (int left = 5; left >= 0; left--) {
            due("12 left", ring.undo(), left);
            due("12 READING", ring.device(0, 3), left + 2);
        }
        due("12 no more", ring.undo(), NO);
        due("12 stays", ring.device(0, 3), 2);
        ring.read(0, 50);
        ring.read(0, 51);
        due("12 then", ring.undo(), 1);
        ring.read(0, 60);
        due("12 an UNDONE one is gone", ring.undo(), 1);
        due("12 back", ring.device(0, 3), 50);
        due("12 the first", ring.undo(), 0);
        due("12 back", ring.device(0, 3), 2);
        ring.read(0, 0);
        due("12 no change by NO", ring.read(0, 0), NO);
        due("12 no change by BAD", ring.tick(0), BAD);
        due("12 no change by asking", ring.worst(0) + ring.help(0), 2);
        ring.write('d');
        due("12 back", ring.undo(), 0);
        due("12 THE TEXT stays", ring.count(10), 1);
        ring.tick(1);
        ring.tick(1);
        due("12 TICKS by which nothing becomes another", ring.undo(), 1);
        due("12 the TICK", ring.count(7), 1);
        ring.lay();
        due("12 a lay that fails leaves it", ring.count(9), 1);
        AlarmRing cut = new AlarmRing();
        cut.wire(3, 1);
        cut.wire(5, 2);
        cut.read(0, 1);
        cut.wire(3, 0);
        cut.wire(5, 0);
        cut.undo();
        due("12 SHORT again", cut.wireOf(5, 0), 2);
        due("12 still whole", cut.wireOf(3, 0), 0);
        cut.undo();
        due("12 CUT again", cut.wireOf(3, 0), 1);
        cut.undo();
        due("12 still CUT", cut.wireOf(3, 0), 1);
        due("12 still SHORT", cut.wireOf(5, 0), 2);
        cut.undo();
        cut.undo();
        due("12 whole", cut.wireOf(3, 0) + cut.wireOf(5, 0), 0);
    }

    private static void promise12UndoOfEachChange() {
        AlarmRing ring = laid("d0,0,0;d2,1,0;e0,63,1,1;e0,63,9,0;t20,40,1,1;");
        ring.read(0, 50);
        ring.tick(1);
        ring.read(1, 1);
        int[] first = told(ring);
        ring.tick(5);
        int[] second = told(ring);
        ring.silence();
        int[] third = told(ring);
        ring.reset();
        int[] fourth = told(ring);
        ring.day(0);
        int[] fifth = told(ring);
        ring.wire(1, 2);
        int[] sixth = told(ring);
        ring.wire(1, 1);
        due("12 CUT again", ring.wireOf(1, 0), 1);
        int[][] all = {sixth, fifth, fourth, third, second, first};
        for (int k = 0; k < all.length; k++) {
            due("12 left", ring.undo(), 5 - k);
            check.holds("12 as it stood, " + k, java.util.Arrays.equals(told(ring), all[k]));
        }
        due("12 no more", ring.undo(), NO);
        ring.tick(3);
        ring.undo();
        due("12 goes on as if it had not been", ring.tick(5), 2);
        check.holds("12 the same again", java.util.Arrays.equals(told(ring), second));
    }

    /** All that can be asked of a ring of two DEVICES and two EFFECTS, but how many changes can be UNDONE. */
    private static int[] told(AlarmRing ring) {
        int[] all = new int[100];
        int n = 0;
        for (int i = 0; i < 2; i++) {
            for (int what = 0; what <= 8; what++) {
                all[n++] = ring.device(i, what);
            }
            for (int what = 0; what <= 7; what++) {
                all[n++] = ring.effect(i, what);
            }
            for (int what = 0; what <= 5; what++) {
                all[n++] = ring.zone(i, what);
            }
        }
        for (int w = 0; w < 3; w++) {
            all[n++] = ring.wireOf(w, 0);
        }
        for (int what = 0; what <= 11; what++) {
            all[n++] = what == 9 ? 0 : ring.count(what);
        }
        return all;
    }

    private static void promise13Device() {
        AlarmRing ring = new AlarmRing();
        due("13 device(-1, 0)", ring.device(-1, 0), BAD);
        due("13 device(8, 0)", ring.device(8, 0), BAD);
        due("13 device(0, -1)", ring.device(0, -1), BAD);
        due("13 device(0, 9)", ring.device(0, 9), BAD);
        due("13 device(most, 0)", ring.device(MOST, 0), BAD);
        due("13 device(0, least)", ring.device(0, LEAST), BAD);
        ring.read(4, 77);
        due("13 READING of a SOUNDER", ring.device(4, 3), 77);
        due("13 VALUE of a SOUNDER", ring.device(4, 5), 77);
        due("13 ends", ring.device(3, 8), 3);
        ring.wire(3, 1);
        due("13 A alone", ring.device(2, 8), 1);
        due("13 B alone", ring.device(3, 8), 2);
        ring.wire(5, 2);
        due("13 the ISOLATOR of a DEAD STRETCH", ring.device(3, 8), 0);
        due("13 in it", ring.device(4, 8), 0);
        due("13 the ISOLATOR behind it", ring.device(6, 8), 2);
        ring.wire(3, 0);
        due("13 the ISOLATOR ahead of it", ring.device(3, 8), 1);
    }

    private static void promise13Level() {
        AlarmRing ring = laid("d0,0,0;d1,0,0;d2,0,0;d3,0,0;t20,40,0,9;");
        int[] values = {19, 20, 39, 40, 99};
        int[] levels = {0, 1, 1, 2, 2};
        for (int k = 0; k < values.length; k++) {
            for (int i = 0; i < 4; i++) {
                ring.read(i, values[k]);
            }
            due("13 SMOKE of " + values[k], ring.device(0, 7), levels[k]);
            due("13 HEAT of " + values[k], ring.device(1, 7), levels[k]);
            due("13 a BUTTON not in FIRE", ring.device(2, 7), 0);
            due("13 a SOUNDER", ring.device(3, 7), 0);
        }
        ring.tick(1);
        int[] burning = {3, 3, 3, 0};
        for (int i = 0; i < 4; i++) {
            ring.read(i, 1);
            due("13 in FIRE " + i, ring.device(i, 7), burning[i]);
        }
    }

    private static void promise14Stop() {
        AlarmRing ring = new AlarmRing();
        due("14 stop(-1, 1, 0)", ring.stop(-1, 1, 0), BAD);
        due("14 stop(8, 1, 0)", ring.stop(8, 1, 0), BAD);
        due("14 stop(0, 0, 0)", ring.stop(0, 0, 0), BAD);
        due("14 stop(0, 3, 0)", ring.stop(0, 3, 0), BAD);
        due("14 stop(0, 1, -1)", ring.stop(0, 1, -1), BAD);
        due("14 stop(0, 1, 3)", ring.stop(0, 1, 3), BAD);
        stops(ring, 0, 1, 0, NONE, NONE);
        stops(ring, 7, 2, 0, NONE, NONE);
        ring.wire(0, 1);
        stops(ring, 0, 1, 1, 0, NONE);
        stops(ring, 7, 1, 1, 0, NONE);
        stops(ring, 0, 2, 0, NONE, NONE);
        ring.wire(8, 1);
        stops(ring, 7, 2, 1, 8, NONE);
        stops(ring, 0, 2, 1, 8, NONE);
        ring.wire(0, 0);
        ring.wire(8, 0);
        ring.wire(4, 1);
        stops(ring, 3, 1, 0, NONE, NONE);
        stops(ring, 4, 1, 1, 4, NONE);
        stops(ring, 3, 2, 1, 4, NONE);
        stops(ring, 4, 2, 0, NONE, NONE);
    }

    private static void promise14StopInDeadStretch() {
        AlarmRing ring = new AlarmRing();
        ring.wire(5, 2);
        stops(ring, 3, 1, 0, NONE, NONE);
        stops(ring, 4, 1, 2, 4, 5);
        stops(ring, 7, 1, 2, 4, 5);
        stops(ring, 5, 2, 2, 6, 5);
        stops(ring, 6, 2, 0, NONE, NONE);
        ring.wire(4, 1);
        stops(ring, 4, 1, 1, 4, 5);
        stops(ring, 4, 2, 2, 6, 5);
        ring.wire(6, 2);
        stops(ring, 0, 2, 2, 6, 5);
        ring.wire(2, 2);
        stops(ring, 7, 1, 2, 1, 2);
        ring.wire(1, 1);
        stops(ring, 7, 1, 1, 1, 2);
        ring.wire(0, 1);
        stops(ring, 7, 1, 1, 0, NONE);
        AlarmRing bare = laid("d0,0,0;d0,0,0;");
        bare.wire(2, 2);
        stops(bare, 0, 1, 2, 0, 2);
        stops(bare, 1, 2, 2, 2, 2);
        bare.wire(0, 2);
        stops(bare, 1, 2, 2, 2, 0);
    }

    private static void stops(AlarmRing ring, int i, int end, int by, int wire, int lowestShort) {
        due("14 stop(" + i + ", " + end + ", 0)", ring.stop(i, end, 0), by);
        due("14 stop(" + i + ", " + end + ", 1)", ring.stop(i, end, 1), wire);
        due("14 stop(" + i + ", " + end + ", 2)", ring.stop(i, end, 2), lowestShort);
    }

    private static void promise15WireOf() {
        AlarmRing ring = new AlarmRing();
        due("15 wireOf(-1, 0)", ring.wireOf(-1, 0), BAD);
        due("15 wireOf(9, 0)", ring.wireOf(9, 0), BAD);
        due("15 wireOf(0, -1)", ring.wireOf(0, -1), BAD);
        due("15 wireOf(0, 3)", ring.wireOf(0, 3), BAD);
        int[] stretches = {0, 1, 1, 1, 2, 2, 2, 3, 3};
        int[] losses = {0, 2, 2, 2, 2, 2, 2, 1, 1};
        for (int w = 0; w <= 8; w++) {
            due("15 STRETCH of " + w, ring.wireOf(w, 1), stretches[w]);
            due("15 LOST by " + w, ring.wireOf(w, 2), losses[w]);
        }
        due("15 asking changes nothing", ring.count(2), 0);
        ring.wire(8, 1);
        due("15 how", ring.wireOf(8, 0), 1);
        due("15 a CUT one were it SHORT", ring.wireOf(8, 2), 1);
        due("15 beside a CUT one", ring.wireOf(0, 2), 8);
        due("15 beside a CUT one", ring.wireOf(4, 2), 4);
        ring.wire(8, 2);
        due("15 how", ring.wireOf(8, 0), 2);
        due("15 a SHORT one", ring.wireOf(8, 2), 1);
        due("15 beside a SHORT one", ring.wireOf(1, 2), 7);
        AlarmRing cut = laid("d0,0,0;d0,0,0;d0,0,1;");
        cut.wire(0, 1);
        due("15 were it SHORT, all else as it is", cut.wireOf(0, 2), 2);
        cut.wire(3, 1);
        due("15 no end", cut.wireOf(0, 2), 3);
        due("15 a last ISOLATOR", cut.wireOf(3, 1), 1);
        AlarmRing bare = laid("d0,0,0;d0,0,0;d0,0,0;");
        due("15 without an ISOLATOR", bare.wireOf(3, 1), 0);
        due("15 without an ISOLATOR", bare.wireOf(2, 2), 3);
    }

    private static void promise16Worst() {
        AlarmRing ring = new AlarmRing();
        due("16 worst(-1)", ring.worst(-1), BAD);
        due("16 worst(2)", ring.worst(2), BAD);
        worst(ring, 1, 2);
        ring.wire(1, 1);
        worst(ring, 7, 7);
        ring.wire(1, 0);
        ring.wire(8, 1);
        worst(ring, 0, 8);
        ring.wire(0, 1);
        worst(ring, 1, 8);
        ring.wire(0, 0);
        ring.wire(8, 0);
        ring.wire(0, 2);
        worst(ring, 7, 8);
        AlarmRing bare = laid("d0,0,0;d0,0,0;d0,0,0;");
        bare.wire(0, 1);
        worst(bare, 1, 3);
        AlarmRing two = laid("d0,0,1;");
        worst(two, 0, 0);
        two.wire(0, 1);
        worst(two, 1, 1);
        two.wire(1, 2);
        due("16 none is whole", two.worst(0), NONE);
        due("16 none is whole", two.worst(1), NONE);
        due("16 BAD ahead of NONE", two.worst(2), BAD);
    }

    private static void worst(AlarmRing ring, int wire, int loss) {
        due("16 worst(0)", ring.worst(0), wire);
        due("16 worst(1)", ring.worst(1), loss);
    }

    private static void promise17Help() {
        AlarmRing ring = laid("d0,0,0;d0,0,0;d0,0,0;d0,0,0;d0,0,0;");
        due("17 help(-1)", ring.help(-1), BAD);
        due("17 help(2)", ring.help(2), BAD);
        help(ring, 2, 2);
        due("17 asking changes nothing", ring.device(2, 2), 0);
        ring.wire(5, 1);
        help(ring, 0, 5);
        AlarmRing some = laid("d0,0,1;d0,0,0;d0,0,0;d0,0,0;d0,0,1;d0,0,0;");
        help(some, 2, 1);
        AlarmRing none = laid("d0,0,1;d0,0,1;");
        due("17 each has one", none.help(0), NONE);
        due("17 each has one", none.help(1), NONE);
        due("17 BAD ahead of NONE", none.help(2), BAD);
        AlarmRing one = laid("d1,0,0;");
        help(one, 0, 0);
        one.wire(0, 1);
        help(one, 0, 1);
        one.wire(1, 2);
        due("17 no WIRE is whole", one.help(0), NONE);
        due("17 no WIRE is whole", one.help(1), NONE);
    }

    private static void help(AlarmRing ring, int device, int loss) {
        due("17 help(0)", ring.help(0), device);
        due("17 help(1)", ring.help(1), loss);
    }

    private static void promise18Zone() {
        AlarmRing ring = new AlarmRing();
        due("18 zone(-1, 0)", ring.zone(-1, 0), BAD);
        due("18 zone(6, 0)", ring.zone(6, 0), BAD);
        due("18 zone(0, -1)", ring.zone(0, -1), BAD);
        due("18 zone(0, 6)", ring.zone(0, 6), BAD);
        zone(ring, 5, 0, NONE, 0, 0, 0, 0);
        zone(ring, 3, 0, NONE, 0, 2, 0, 0);
        ring.read(1, 99);
        ring.read(0, 99);
        ring.tick(1);
        zone(ring, 0, 1, 0, 1, 2, 0, 1);
        ring.tick(2);
        zone(ring, 0, 1, 2, 1, 2, 0, 2);
        ring.wire(1, 2);
        zone(ring, 0, 1, 2, 1, 2, 1, 2);
        zone(ring, 1, 0, NONE, 0, 2, 1, 0);
        ring.tick(50);
        zone(ring, 0, 1, 52, 1, 2, 1, 2);
    }

    private static void zone(AlarmRing ring, int z, int... told) {
        for (int what = 0; what < told.length; what++) {
            due("18 zone(" + z + ", " + what + ")", ring.zone(z, what), told[what]);
        }
    }

    private static void promise18Leave() {
        AlarmRing ring = laid("d2,0,0;d2,4,0;v2;");
        ring.read(1, 1);
        ring.tick(1);
        leave(ring, 0, 0, 0, 0, 1, 0);
        ring.tick(1);
        leave(ring, 0, 0, 0, 0, 1, 0);
        ring.tick(1);
        leave(ring, 0, 0, 0, 2, 1, 2);
        ring.tick(1);
        leave(ring, 0, 0, 0, 2, 1, 2);
        ring.read(0, 1);
        ring.tick(1);
        leave(ring, 1, 3, 3, 2, 1, 2);
        ring.tick(2);
        leave(ring, 1, 2, 3, 2, 1, 2);
        ring.reset();
        leave(ring, 0, 0, 0, 0, 0, 0);
        AlarmRing edge = laid("d2,5,0;v1;");
        edge.read(0, 1);
        edge.tick(2);
        leave(edge, 0, 0, 0, 0, 2, 1);
        edge.tick(1);
        leave(edge, 3, 3, 3, 3, 2, 1);
    }

    private static void leave(AlarmRing ring, int... phases) {
        for (int z = 0; z < 6; z++) {
            due("18 LEAVE of " + z + " at " + ring.count(7), ring.zone(z, 2), phases[z]);
        }
    }

    private static void promise19Effect() {
        AlarmRing ring = new AlarmRing();
        due("19 effect(-1, 0)", ring.effect(-1, 0), BAD);
        due("19 effect(4, 0)", ring.effect(4, 0), BAD);
        due("19 effect(0, -1)", ring.effect(0, -1), BAD);
        due("19 effect(0, 8)", ring.effect(0, 8), BAD);
        ring.read(2, 1);
        effect(ring, 0, 0, 15, 0, 1, 0, 0, 0, 0);
        ring.tick(1);
        effect(ring, 0, 0, 15, 0, 1, 1, 1, 1, 0);
        effect(ring, 1, 2, 15, 3, 0, 0, 0, 0, 0);
        ring.silence();
        ring.tick(1);
        effect(ring, 0, 0, 15, 0, 1, 1, 1, 1, 1);
        ring.read(1, 99);
        ring.tick(1);
        effect(ring, 0, 0, 15, 0, 1, 1, 1, 1, 0);
        effect(ring, 1, 2, 15, 3, 0, 1, 1, 0, 0);
        effect(ring, 2, 1, 3, 2, 0, 1, 1, 0, 0);
        effect(ring, 3, 0, 4, 0, 1, 0, 0, 0, 0);
        ring.reset();
        effect(ring, 1, 2, 15, 3, 0, 0, 0, 0, 0);
        AlarmRing none = laid("d0,0,0;");
        due("19 there is none", none.effect(0, 0), BAD);
    }

    private static void effect(AlarmRing ring, int k, int... told) {
        for (int what = 0; what < told.length; what++) {
            due("19 effect(" + k + ", " + what + ")", ring.effect(k, what), told[what]);
        }
    }

    private static void promise20Count() {
        AlarmRing ring = laid("d2,0,0;d2,0,0;d2,1,1;d1,2,0;e0,3,0,1;e0,3,0,1;e0,3,0,0;e0,3,9,0;");
        due("20 count(-1)", ring.count(-1), BAD);
        due("20 count(12)", ring.count(12), BAD);
        due("20 count(least)", ring.count(LEAST), BAD);
        due("20 count(most)", ring.count(MOST), BAD);
        ring.read(0, 1);
        ring.read(1, 1);
        ring.read(2, 1);
        counts(ring, 4, 4, 0, 0, 0, 0, 0, 0, 1, 3, 64, 0);
        ring.tick(2);
        counts(ring, 4, 4, 0, 3, 2, 3, 0, 2, 1, 4, 64, 2);
        ring.silence();
        ring.day(0);
        counts(ring, 4, 4, 0, 3, 2, 3, 2, 2, 0, 6, 64, 0);
        ring.wire(0, 2);
        ring.tick(1);
        ring.wipe();
        counts(ring, 4, 4, 2, 3, 2, 4, 2, 3, 0, 6, 0, 0);
    }

    private static void counts(AlarmRing ring, int... told) {
        for (int what = 0; what < told.length; what++) {
            due("20 count(" + what + ")", ring.count(what), told[what]);
        }
    }
}
