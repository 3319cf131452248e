/** "Terms", 3: a TICK, ZONES, EFFECTS, SILENCED, PUT BACK, SINCE, LEAVE; each boundary has a test of its own. */
public final class TickSentenceTests {
    private static final Check check = new Check("TickSentenceTests");
    private static Sentences the;

    private TickSentenceTests() {
    }

    public static void main(String[] args) throws Exception {
        the = new Sentences(check);
        number();
        readingAndValue();
        counts();
        fire();
        bases();
        basesAtTheirEnds();
        lostStays();
        zones();
        wanted();
        onAndWait();
        delays();
        silenced();
        silentNoMore();
        putBack();
        since();
        leave();
        leaveNextTo();
        check.end();
    }

    private static void number() {
        the.says("A TICK (its number: 1 more than there were ahead)", """
            count(7) = 0   tick(1) = 0   count(7) = 1   tick(50) = 0   count(7) = 51
            laid d0,0,0;t90,99,0,5;
            tick(4) = 0   read(0, 9) = 0   tick(1) = 0   device(0, 4) = 1   tick(4) = 0   device(0, 4) = 1
            tick(1) = 0   device(0, 4) = 2
            """);
    }

    private static void readingAndValue() {
        the.says("READING is 0 to 99", """
            read(0, -1) = BAD   read(0, 100) = BAD   device(0, 3) = 0
            read(0, 99) = 0   device(0, 3) = 99   device(0, 5) = 99   read(0, 0) = 99   device(0, 3) = 0
            """);
        the.says("VALUE READING less BASE, 0 at least.", """
            laid d0,0,0;t50,99,0,1;
            read(0, 10) = 0   device(0, 5) = 10   tick(9) = 0   device(0, 4) = 9   device(0, 5) = 1
            tick(1) = 0   device(0, 4) = 10   device(0, 5) = 0
            read(0, 11) = 10   device(0, 5) = 1   read(0, 9) = 11   device(0, 5) = 0   read(0, 0) = 9   device(0, 5) = 0
            laid d1,0,0;t10,20,0,1;
            read(0, 9) = 0   tick(5) = 0   device(0, 4) = 5
            read(0, 24) = 9   device(0, 5) = 19   tick(1) = 0   read(0, 25) = 24   device(0, 5) = 20   tick(1) = 1
            """);
    }

    private static void counts() {
        the.says("COUNT of a SMOKE one is 1 more, if VALUE is ALARM or more, else 0.", """
            laid d0,0,0;d1,0,0;d2,0,0;d3,0,0;t20,40,9,9;
            read(0, 39) = 0   tick(1) = 0   device(0, 6) = 0
            read(0, 40) = 39   tick(1) = 0   device(0, 6) = 1   tick(2) = 0   device(0, 6) = 3
            read(0, 39) = 40   device(0, 6) = 3   tick(1) = 0   device(0, 6) = 0
            read(0, 99) = 39   tick(2) = 0   device(0, 6) = 2   tick(50) = 1   device(0, 6) = 52
            read(1, 99) = 0   read(2, 99) = 0   read(3, 99) = 0   tick(1) = 2
            device(1, 6) = 0   device(2, 6) = 0   device(3, 6) = 0
            """);
    }

    private static void fire() {
        the.says("It is in FIRE from then on", """
            laid d0,0,0;d1,0,0;d2,0,0;t20,40,0,9;
            read(0, 40) = 0   read(1, 40) = 0   read(2, 1) = 0   count(3) = 0   tick(1) = 3
            read(0, 0) = 40   read(1, 0) = 40   read(2, 0) = 1   tick(50) = 0   count(3) = 3
            device(0, 7) = 3   device(1, 7) = 3   device(2, 7) = 3
            """);
        the.says("SMOKE, if COUNT is more than CONFIRM", """
            laid d0,0,0;t20,40,0,9;
            read(0, 39) = 0   tick(1) = 0   read(0, 40) = 39   tick(1) = 1
            laid d0,0,0;t20,40,9,9;
            read(0, 99) = 0   tick(9) = 0   device(0, 6) = 9   tick(1) = 1   device(0, 6) = 10
            laid d0,0,0;t20,40,1,9;
            read(0, 40) = 0   tick(1) = 0   read(0, 39) = 40   tick(1) = 0   read(0, 40) = 39   tick(1) = 0   tick(1) = 1
            """);
        the.says("HEAT, if VALUE is ALARM or more", """
            laid d1,0,0;t20,40,9,9;
            read(0, 39) = 0   tick(1) = 0   read(0, 40) = 39   tick(1) = 1
            """);
        the.says("BUTTON, if READING is above 0", """
            laid d2,0,0;t20,40,9,9;
            tick(1) = 0   read(0, 1) = 0   tick(1) = 1
            """);
        the.says("a SOUNDER never.", """
            laid d3,0,0;t1,2,0,9;
            read(0, 1) = 0   tick(1) = 0   read(0, 99) = 1   tick(50) = 0   device(0, 7) = 0   count(3) = 0
            """);
    }

    private static void bases() {
        the.says("Then, if B parts the number of the TICK, BASE of each SMOKE, HEAT one that is not LOST, whose VALUE is less than "
            + "PRE, goes on by 1 towards READING", """
            laid d0,0,0;d1,0,0;d2,0,0;d3,0,0;t20,40,9,3;
            read(0, 19) = 0   read(1, 20) = 0   read(2, 19) = 0   read(3, 19) = 0
            tick(2) = 1   device(0, 4) = 0
            tick(1) = 0   device(0, 4) = 1   device(1, 4) = 0   device(2, 4) = 0   device(3, 4) = 0
            read(1, 19) = 20   tick(2) = 0   device(1, 4) = 0   tick(1) = 0   device(0, 4) = 2   device(1, 4) = 1
            read(0, 2) = 19   tick(3) = 0   device(0, 4) = 2
            read(0, 0) = 2   tick(3) = 0   device(0, 4) = 1   tick(3) = 0   device(0, 4) = 0   tick(3) = 0   device(0, 4) = 0
            laid d1,0,0;t20,40,0,1;
            read(0, 40) = 0   tick(1) = 1   read(0, 19) = 40   tick(1) = 0   device(0, 4) = 1   device(0, 7) = 3
            read(0, 21) = 19   tick(1) = 0   device(0, 4) = 1   read(0, 20) = 21   tick(1) = 0   device(0, 4) = 2
            """);
    }

    private static void basesAtTheirEnds() {
        the.says("goes on by 1 towards READING (40 at most).", """
            laid d0,0,0;t90,99,0,1;
            read(0, 89) = 0   tick(39) = 0   device(0, 4) = 39   tick(1) = 0   device(0, 4) = 40
            tick(50) = 0   device(0, 4) = 40   device(0, 5) = 49
            read(0, 41) = 89   tick(1) = 0   device(0, 4) = 40
            read(0, 40) = 41   tick(1) = 0   device(0, 4) = 40
            read(0, 39) = 40   tick(1) = 0   device(0, 4) = 39
            read(0, 0) = 39   tick(38) = 0   device(0, 4) = 1   tick(1) = 0   device(0, 4) = 0   tick(1) = 0   device(0, 4) = 0
            """);
    }

    private static void lostStays() {
        the.says(", of DEVICES that are not LOST:", """
            laid d2,0,0;d2,0,0;d2,0,1;
            read(0, 1) = 0   read(1, 1) = 0   read(2, 1) = 0   wire(1, 1) = 0   wire(2, 1) = 0   tick(1) = 2
            device(0, 7) = 3   device(1, 7) = 0   device(2, 7) = 3   wire(1, 0) = 1   tick(1) = 1   device(1, 7) = 3
            laid d2,0,0;d2,0,0;d2,0,1;
            read(0, 1) = 0   read(1, 1) = 0   read(2, 1) = 0   wire(2, 2) = 0   tick(50) = 1   device(2, 7) = 3   count(3) = 1
            """);
        the.says("A DEVICE that is LOST stays as it is.", """
            laid d0,0,0;d1,1,0;d2,2,0;t20,40,1,1;
            read(0, 40) = 0   read(1, 5) = 0   tick(1) = 0   device(0, 6) = 1   device(1, 4) = 1
            wire(0, 2) = 0   tick(1) = 0   device(0, 6) = 1   device(1, 4) = 1
            read(0, 0) = 40   read(1, 99) = 5   read(2, 1) = 0   tick(50) = 0   device(0, 6) = 1   device(1, 4) = 1
            count(7) = 52   count(3) = 0
            wire(0, 1) = 2   tick(1) = 2   device(0, 6) = 0
            wire(3, 1) = 0   read(1, 0) = 99   read(2, 0) = 1   tick(1) = 0   device(1, 7) = 3   device(2, 7) = 3   count(3) = 2
            device(1, 4) = 1
            """);
    }

    private static void zones() {
        the.says("A ZONE is in FIRE, if a DEVICE of it is.", """
            laid d2,5,0;d2,0,0;d2,0,0;
            read(2, 1) = 0   zone(0, 0) = 0   tick(1) = 1   zone(0, 0) = 1   zone(5, 0) = 0   zone(1, 0) = 0   count(4) = 1
            read(1, 1) = 0   tick(1) = 1   count(4) = 1   zone(0, 5) = 2
            wire(0, 2) = 0   count(2) = 3   zone(0, 0) = 1   tick(1) = 0   zone(0, 0) = 1
            laid d2,0,0;d2,1,0;d2,2,0;d2,3,0;d2,4,0;d2,5,0;
            read(5, 1) = 0   tick(1) = 1   zone(5, 0) = 1   count(4) = 1
            read(0, 1) = 0   read(1, 1) = 0   read(2, 1) = 0   read(3, 1) = 0   read(4, 1) = 0   tick(1) = 5   count(4) = 6
            """);
    }

    private static void wanted() {
        the.says("WANTED is one, if by ANY one or more, by ALL each, by TWO two or more ZONES of its set are in FIRE.", """
            laid d2,0,0;d2,1,0;d2,5,0;e0,35,9,0;e1,35,9,0;e2,35,9,0;e1,1,9,0;e2,1,9,0;e0,28,9,0;
            effect(0, 4) = 0   effect(1, 4) = 0   effect(2, 4) = 0   effect(3, 4) = 0   effect(4, 4) = 0   effect(5, 4) = 0
            read(0, 1) = 0   tick(1) = 1
            effect(0, 4) = 1   effect(1, 4) = 0   effect(2, 4) = 0   effect(3, 4) = 1   effect(4, 4) = 0   effect(5, 4) = 0
            read(2, 1) = 0   tick(1) = 1
            effect(0, 4) = 1   effect(1, 4) = 0   effect(2, 4) = 1   effect(3, 4) = 1   effect(4, 4) = 0   effect(5, 4) = 0
            read(1, 1) = 0   tick(1) = 1
            effect(0, 4) = 1   effect(1, 4) = 1   effect(2, 4) = 1   effect(3, 4) = 1   effect(4, 4) = 0   effect(5, 4) = 0
            laid d2,0,0;d2,1,0;d2,2,0;e2,4,0,0;e2,5,0,0;e1,12,0,0;e0,32,0,0;
            read(0, 1) = 0   read(1, 1) = 0   tick(1) = 2   effect(0, 4) = 0   effect(1, 4) = 0
            read(2, 1) = 0   tick(1) = 1   effect(0, 4) = 0   effect(1, 4) = 1   effect(2, 4) = 0   effect(3, 4) = 0
            """);
    }

    private static void onAndWait() {
        the.says("Behind that, of EFFECTS, 0 first:", """
            laid d2,0,0;d1,1,0;e2,3,0,1;e1,3,0,0;e0,3,0,1;
            read(0, 1) = 0   read(1, 99) = 0   count(5) = 0   tick(1) = 2   count(5) = 3
            effect(0, 5) = 1   effect(1, 5) = 1   effect(2, 5) = 1
            """);
        the.says("If it is ON, it stays so.", """
            laid d2,0,0;e0,1,9,0;
            day(0) = 0   read(0, 1) = 0   tick(1) = 1   effect(0, 6) = 1   effect(0, 5) = 1
            day(1) = 1   tick(5) = 0   effect(0, 6) = 1   effect(0, 5) = 1   read(0, 0) = 1   tick(9) = 0   effect(0, 6) = 1
            """);
        the.says("Else its WAIT (0 at first) is 1 more, if it is WANTED, 0, if not", """
            laid d2,0,0;e0,1,9,0;e0,2,9,0;
            effect(0, 5) = 0   tick(1) = 0   effect(0, 5) = 0
            read(0, 1) = 0   tick(1) = 1   effect(0, 5) = 1   effect(1, 5) = 0   tick(8) = 0   effect(0, 5) = 9   effect(1, 5) = 0
            """);
    }

    private static void delays() {
        the.says("it is ON, if WAIT is more than its DELAY (by NIGHT more than 0).", """
            laid d2,0,0;e0,1,0,0;e0,1,1,0;e0,1,9,0;e0,2,0,0;
            tick(1) = 0   count(5) = 0
            read(0, 1) = 0   tick(1) = 1   effect(0, 6) = 1   effect(1, 6) = 0   effect(2, 6) = 0   effect(3, 6) = 0
            tick(1) = 0   effect(1, 6) = 1   effect(2, 6) = 0
            tick(7) = 0   effect(2, 5) = 9   effect(2, 6) = 0   tick(1) = 0   effect(2, 5) = 10   effect(2, 6) = 1
            effect(0, 5) = 1   effect(1, 5) = 2
            tick(50) = 0   effect(2, 5) = 10   effect(3, 6) = 0
            laid d2,0,0;e0,1,9,0;e0,2,0,0;
            day(0) = 0   tick(1) = 0   count(5) = 0
            read(0, 1) = 0   tick(1) = 1   effect(0, 6) = 1   effect(0, 5) = 1   effect(1, 6) = 0
            laid d2,0,0;e0,1,9,0;
            read(0, 1) = 0   tick(3) = 1   day(0) = 0   effect(0, 6) = 0   tick(1) = 0   effect(0, 6) = 1   effect(0, 5) = 4
            """);
    }

    private static void silenced() {
        the.says("SILENCED: each SOUND that is ON is SILENT from then on", """
            laid d2,0,0;d2,0,0;e0,1,0,1;e0,1,0,0;e0,1,2,1;e0,1,0,1;
            read(0, 1) = 0   tick(1) = 1   silence() = 2
            effect(0, 7) = 1   effect(1, 7) = 0   effect(2, 7) = 0   effect(3, 7) = 1   effect(0, 6) = 1   count(6) = 2
            tick(2) = 0   effect(2, 6) = 1   effect(2, 7) = 0   count(6) = 2   count(11) = 1
            silence() = 1   count(6) = 3   count(11) = 0   tick(50) = 0   count(6) = 3
            """);
    }

    private static void silentNoMore() {
        the.says("in a TICK in which a ZONE comes in FIRE that was not, none is SILENT any more.", """
            laid d2,0,0;d2,0,0;d2,5,0;d2,4,0;e0,1,0,1;e0,1,0,1;
            read(0, 1) = 0   tick(1) = 1   silence() = 2
            read(1, 1) = 0   tick(1) = 1   count(6) = 2
            read(2, 1) = 0   count(6) = 2   tick(1) = 1   count(6) = 0   count(11) = 2   effect(0, 6) = 1
            tick(1) = 0   silence() = 2   read(3, 1) = 0   tick(50) = 1   count(6) = 0   silence() = 2   tick(50) = 0   count(6) = 2
            laid d2,0,0;d2,1,0;e0,1,0,1;
            read(0, 1) = 0   tick(1) = 1   silence() = 1   wire(0, 2) = 0   read(1, 1) = 0   tick(9) = 0   count(6) = 1
            wire(0, 0) = 2   tick(1) = 1   count(6) = 0
            """);
    }

    private static void putBack() {
        the.says("PUT BACK: no DEVICE is in FIRE, COUNTS are 0; no EFFECT is ON, SILENT; WAITS are 0 (READINGS, BASES stay).", """
            laid d0,0,0;d1,1,0;d2,2,0;d0,3,0;d0,4,0;e0,63,0,1;e0,63,9,0;t20,40,1,1;
            read(0, 50) = 0   read(1, 40) = 0   read(2, 7) = 0   read(3, 10) = 0   tick(2) = 3   read(4, 40) = 0   tick(1) = 0
            silence() = 1   wire(0, 1) = 0   wire(5, 1) = 0   day(0) = 1
            device(4, 6) = 1   effect(1, 5) = 3   count(2) = 5
            reset() = 3
            count(3) = 0   count(4) = 0   count(5) = 0   count(6) = 0   count(11) = 0   effect(0, 4) = 0
            device(0, 6) = 0   device(4, 6) = 0   device(0, 7) = 2   device(2, 7) = 0   effect(0, 5) = 0   effect(1, 5) = 0
            device(0, 3) = 50   device(1, 3) = 40   device(2, 3) = 7   device(3, 3) = 10   device(3, 4) = 3
            wireOf(0, 0) = 1   wireOf(5, 0) = 1   count(7) = 3   count(8) = 0   zone(0, 1) = NONE   zone(0, 2) = 0
            reset() = NO   wire(0, 0) = 1   tick(1) = 2   zone(1, 1) = 0   tick(1) = 2
            """);
    }

    private static void since() {
        the.says("SINCE of a ZONE in FIRE: how many TICKS it has been (0 behind the TICK in which it came).", """
            laid d2,0,0;d2,0,0;d2,5,0;
            zone(0, 1) = NONE   read(0, 1) = 0   zone(0, 1) = NONE   tick(1) = 1   zone(0, 1) = 0   tick(1) = 0   zone(0, 1) = 1
            read(1, 1) = 0   read(2, 1) = 0   tick(1) = 2   zone(0, 1) = 2   zone(5, 1) = 0   zone(1, 1) = NONE
            tick(50) = 0   zone(0, 1) = 52   zone(5, 1) = 50
            reset() = 3   zone(0, 1) = NONE   zone(5, 1) = NONE   tick(1) = 3   zone(0, 1) = 0   zone(5, 1) = 0
            undo() = 5   undo() = 4   zone(0, 1) = 52   zone(5, 1) = 50
            laid d2,0,0;
            read(0, 1) = 0   tick(50) = 1   zone(0, 1) = 49
            """);
    }

    private static void leave() {
        the.says("LEAVE: PHASE 1 is for a ZONE in FIRE; 2 for one next to a ZONE (by number) that has been so for E TICKS or more; 3 "
            + "for one, if any has been for 2 E or more; the lowest; 0 none.", """
            laid d2,2,0;d2,3,0;v2;
            zone(2, 2) = 0   read(0, 1) = 0   tick(1) = 1
            zone(0, 2) = 0   zone(1, 2) = 0   zone(2, 2) = 1   zone(3, 2) = 0   zone(4, 2) = 0   zone(5, 2) = 0
            tick(1) = 0   zone(2, 1) = 1   zone(1, 2) = 0   zone(3, 2) = 0
            tick(1) = 0   zone(2, 1) = 2
            zone(0, 2) = 0   zone(1, 2) = 2   zone(2, 2) = 1   zone(3, 2) = 2   zone(4, 2) = 0   zone(5, 2) = 0
            tick(1) = 0   zone(2, 1) = 3   zone(0, 2) = 0   zone(4, 2) = 0
            tick(1) = 0   zone(2, 1) = 4
            zone(0, 2) = 3   zone(1, 2) = 2   zone(2, 2) = 1   zone(3, 2) = 2   zone(4, 2) = 3   zone(5, 2) = 3
            read(1, 1) = 0   tick(1) = 1   zone(3, 2) = 1   zone(4, 2) = 3   tick(1) = 0   zone(4, 2) = 3
            tick(1) = 0   zone(4, 2) = 2   zone(5, 2) = 3
            reset() = 2   zone(0, 2) = 0   zone(1, 2) = 0   zone(2, 2) = 0   zone(4, 2) = 0
            laid d2,2,0;v9;
            read(0, 1) = 0   tick(9) = 1   zone(1, 2) = 0   tick(1) = 0   zone(1, 2) = 2
            tick(8) = 0   zone(5, 2) = 0   tick(1) = 0   zone(5, 2) = 3
            """);
    }

    private static void leaveNextTo() {
        the.says("2 for one next to a ZONE (by number)", """
            laid d2,0,0;v1;
            read(0, 1) = 0   tick(2) = 1   zone(1, 2) = 2   zone(5, 2) = 0   zone(2, 2) = 0
            tick(1) = 0   zone(1, 2) = 2   zone(5, 2) = 3   zone(2, 2) = 3
            laid d2,5,0;v1;
            read(0, 1) = 0   tick(2) = 1   zone(4, 2) = 2   zone(0, 2) = 0   zone(3, 2) = 0
            tick(1) = 0   zone(4, 2) = 2   zone(0, 2) = 3   zone(3, 2) = 3
            """);
    }
}
