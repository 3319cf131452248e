/** "Terms", 1: the ring, THE TEXT, FAULT, LAID; each sentence with a boundary has a test of its own. */
public final class TextSentenceTests {
    private static final Check check = new Check("TextSentenceTests");
    private static final String TWELVE = "d0,0,0;".repeat(12);
    private static final String SIX = "e0,1,0,0;".repeat(6);
    private static Sentences the;

    private TextSentenceTests() {
    }

    public static void main(String[] args) throws Exception {
        the = new Sentences(check);
        devices();
        wires();
        whatADeviceIs();
        letters();
        items();
        figures();
        deviceItems();
        effectItems();
        limitItems();
        limitsWithout();
        phaseItems();
        fault();
        laid();
        laidAtFirst();
        laidAnew();
        check.end();
    }

    private static void devices() {
        the.says("(12 at most), one behind the other", ""
            + "fault " + TWELVE + " = NONE\n"
            + "fault " + TWELVE + "d0,0,0; = 84\n"
            + "fault " + TWELVE + "v1;d0,0,0; = 87\n"
            + "fault " + TWELVE + SIX + "d0,0,0; = 138\n"
            + "text " + TWELVE + "d0,0,0;\n"
            + "lay() = NO   count(0) = 8\n"
            + "laid " + TWELVE + "\n"
            + "count(0) = 12   device(11, 0) = 0   device(12, 0) = BAD   wireOf(12, 0) = 0   wireOf(13, 0) = BAD\n");
    }

    private static void wires() {
        the.says("WIRES: 0 from the panel to DEVICE 0, k from DEVICE k - 1 to DEVICE k, the last one from the last DEVICE "
            + "back to the panel.", """
            laid d0,0,0;
            wireOf(0, 0) = 0   wireOf(1, 0) = 0   wireOf(2, 0) = BAD
            wire(0, 1) = 0   device(0, 8) = 2
            wire(1, 1) = 0   device(0, 8) = 0
            wire(0, 0) = 1   device(0, 8) = 1
            laid d0,0,0;d0,0,0;d0,0,0;
            wire(0, 1) = 0   device(0, 8) = 2   device(1, 8) = 2   device(2, 8) = 2   undo() = 0
            wire(1, 1) = 0   device(0, 8) = 1   device(1, 8) = 2   device(2, 8) = 2   undo() = 0
            wire(2, 1) = 0   device(0, 8) = 1   device(1, 8) = 1   device(2, 8) = 2   undo() = 0
            wire(3, 1) = 0   device(0, 8) = 1   device(1, 8) = 1   device(2, 8) = 1   undo() = 0
            wire(4, 1) = BAD
            """);
    }

    private static void whatADeviceIs() {
        the.says("A DEVICE is of a KIND (0 SMOKE, 1 HEAT, 2 BUTTON, 3 SOUNDER), in a ZONE (0 to 5), with an ISOLATOR (1) or "
            + "without (0)", """
            laid d0,0,0;d1,5,1;d2,4,0;d3,3,1;
            device(0, 0) = 0   device(0, 1) = 0   device(0, 2) = 0
            device(1, 0) = 1   device(1, 1) = 5   device(1, 2) = 1
            device(2, 0) = 2   device(2, 1) = 4   device(2, 2) = 0
            device(3, 0) = 3   device(3, 1) = 3   device(3, 2) = 1
            zone(5, 3) = 1   zone(6, 3) = BAD   zone(1, 3) = 0
            """);
        the.says("a WIRE is whole (0), CUT (1) or SHORT (2).", """
            laid d0,0,0;
            wire(0, -1) = BAD   wire(0, 3) = BAD   wireOf(0, 0) = 0
            wire(0, 1) = 0   wireOf(0, 0) = 1   wire(0, 2) = 1   wireOf(0, 0) = 2   wire(0, 0) = 2   wireOf(0, 0) = 0
            """);
    }

    private static void letters() {
        the.says("THE TEXT is letters (200 at most).", ""
            + "text " + "v1;".repeat(66) + "v\n"
            + "count(10) = 199   write(49) = 200   write(59) = FULL   count(10) = 200   fault() = 198\n"
            + "new\n"
            + "text " + TWELVE + SIX + "t10,20,0,1;" + "v1;".repeat(17) + "\n"
            + "count(10) = 200   fault() = NONE   lay() = 12   count(1) = 6   write(59) = FULL\n");
    }

    private static void items() {
        the.says("A TEXT is ITEMS one behind the other, a ; behind each", """
            fault  = NONE
            fault v1; = NONE
            fault v1;v1; = NONE
            fault v1 = 0
            fault v1;v1 = 3
            fault v1;v = 3
            fault v1;v1, = 3
            fault d = 0
            fault d0 = 0
            fault d0, = 0
            fault d0,0,0 = 0
            fault e0,1,0,0 = 0
            fault t1,2,0,1 = 0
            fault ; = 0
            fault v1;; = 3
            fault ;v1; = 0
            fault  v1; = 0
            fault v1; v1; = 3
            fault v1 ; = 0
            fault v 1; = 0
            fault v1:v1; = 0
            fault v1,v1; = 0
            fault V1; = 0
            fault D0,0,0; = 0
            fault E0,1,0,0; = 0
            fault T1,2,0,1; = 0
            fault c0,0,0; = 0
            fault f0,1,0,0; = 0
            fault 1; = 0
            """);
        the.says("dK,Z,I the next DEVICE", """
            fault d; = 0
            fault d0; = 0
            fault d0,0; = 0
            fault d0,0,; = 0
            fault d0,0,0,; = 0
            fault d0,0,0,0; = 0
            fault d0;0;0; = 0
            fault d0.0,0; = 0
            fault d0,0.0; = 0
            """);
        the.says("eK,S,D,L the next EFFECT", """
            fault e; = 0
            fault e0,1,0; = 0
            fault e0,1,0,; = 0
            fault e0,1,0,0,; = 0
            fault e0,1,0,0,0; = 0
            fault e0,1,0;0; = 0
            """);
        the.says("tP,A,C,B PRE is P", """
            fault t; = 0
            fault t1,2,0; = 0
            fault t1,2,0,; = 0
            fault t1,2,0,1,; = 0
            fault t1,2,0,1,1; = 0
            """);
        the.says("vE a PHASE is E TICKS", """
            fault v; = 0
            fault v,; = 0
            fault v1,; = 0
            fault v1,1; = 0
            """);
    }

    private static void figures() {
        the.says("numbers have one or two figures", """
            fault d00,05,01; = NONE
            fault d,0,0; = 0
            fault d0,,0; = 0
            fault d000,0,0; = 0
            fault d0,000,0; = 0
            fault d0,0,000; = 0
            fault e02,01,09,01; = NONE
            fault e000,1,0,0; = 0
            fault e0,001,0,0; = 0
            fault e0,1,000,0; = 0
            fault e0,1,0,000; = 0
            fault e,1,0,0; = 0
            fault e0,,0,0; = 0
            fault e0,1,,0; = 0
            fault t01,02,00,01; = NONE
            fault t001,2,0,1; = 0
            fault t1,002,0,1; = 0
            fault t1,2,000,1; = 0
            fault t1,2,0,001; = 0
            fault v01; = NONE
            fault v001; = 0
            fault v-1; = 0
            fault v+1; = 0
            fault v/; = 0
            fault v:; = 0
            fault v0/; = 0
            fault v0:; = 0
            fault va; = 0
            fault d:,0,0; = 0
            fault e0,:,0,0; = 0
            fault e0,/,0,0; = 0
            fault e0,1:,0,0; = 0
            fault e0,:1,0,0; = 0
            fault t:,99,0,1; = 0
            fault t1,:,0,1; = 0
            fault t1,A,0,1; = 0
            laid d01,05,01;e01,09,08,01;e2,63,9,0;
            device(0, 0) = 1   device(0, 1) = 5   device(0, 2) = 1
            effect(0, 0) = 1   effect(0, 1) = 9   effect(0, 2) = 8   effect(0, 3) = 1
            effect(1, 0) = 2   effect(1, 1) = 63   effect(1, 2) = 9   effect(1, 3) = 0
            """);
    }

    private static void deviceItems() {
        the.says("KIND K, ZONE Z, ISOLATOR I", """
            fault d0,0,0; = NONE
            fault d3,0,0; = NONE
            fault d4,0,0; = 0
            fault d99,0,0; = 0
            fault d0,5,0; = NONE
            fault d0,6,0; = 0
            fault d0,50,0; = 0
            fault d0,0,1; = NONE
            fault d0,0,2; = 0
            fault d0,0,10; = 0
            """);
    }

    private static void effectItems() {
        the.says("the next EFFECT (6 at most)", ""
            + "fault " + SIX + " = NONE\n"
            + "fault " + SIX + "e0,1,0,0; = 54\n"
            + "fault " + SIX + TWELVE + "e0,1,0,0; = 138\n"
            + "laid d0,0,0;" + SIX + "\n"
            + "count(1) = 6   effect(5, 1) = 1   effect(6, 1) = BAD\n"
            + "laid d0,0,0;\n"
            + "count(1) = 0   effect(0, 0) = BAD\n");
        the.says("KIND K (0 ANY, 1 ALL, 2 TWO)", """
            fault e0,1,0,0; = NONE
            fault e2,1,0,0; = NONE
            fault e3,1,0,0; = 0
            """);
        the.says("a set S of ZONES (bits, 1 to 63)", """
            fault e0,0,0,0; = 0
            fault e0,1,0,0; = NONE
            fault e0,63,0,0; = NONE
            fault e0,64,0,0; = 0
            fault e0,99,0,0; = 0
            """);
        the.says("DELAY D (0 to 9)", """
            fault e0,1,0,0; = NONE
            fault e0,1,9,0; = NONE
            fault e0,1,10,0; = 0
            """);
        the.says("a SOUND (L 1) or not (0)", """
            fault e0,1,0,1; = NONE
            fault e0,1,0,2; = 0
            laid d0,0,0;e0,1,0,1;e0,1,0,0;
            effect(0, 3) = 1   effect(1, 3) = 0
            """);
    }

    private static void limitItems() {
        the.says("PRE is P (1 to 90)", """
            fault t0,2,0,1; = 0
            fault t1,2,0,1; = NONE
            fault t90,99,0,1; = NONE
            fault t91,99,0,1; = 0
            fault t98,99,0,1; = 0
            """);
        the.says("ALARM A (P + 1 to 99)", """
            fault t1,0,0,1; = 0
            fault t1,1,0,1; = 0
            fault t1,2,0,1; = NONE
            fault t1,99,0,1; = NONE
            fault t1,100,0,1; = 0
            fault t90,89,0,1; = 0
            fault t90,90,0,1; = 0
            fault t90,91,0,1; = NONE
            """);
        the.says("CONFIRM C (0 to 9)", """
            fault t1,2,0,1; = NONE
            fault t1,2,9,1; = NONE
            fault t1,2,10,1; = 0
            """);
        the.says("BASES go on each B-th TICK (1 to 9)", """
            fault t1,2,0,0; = 0
            fault t1,2,0,1; = NONE
            fault t1,2,0,9; = NONE
            fault t1,2,0,10; = 0
            laid d0,0,0;t90,99,0,1;
            read(0, 50) = 0   tick(1) = 0   device(0, 4) = 1   tick(1) = 0   device(0, 4) = 2
            laid d0,0,0;t90,99,0,9;
            read(0, 50) = 0   tick(8) = 0   device(0, 4) = 0   tick(1) = 0   device(0, 4) = 1
            tick(8) = 0   device(0, 4) = 1   tick(1) = 0   device(0, 4) = 2
            """);
    }

    private static void limitsWithout() {
        the.says("(30, 60, 2, 4 without; of several the last one counts)", """
            laid d0,0,0;
            read(0, 29) = 0   device(0, 7) = 0   read(0, 30) = 29   device(0, 7) = 1
            read(0, 59) = 30   device(0, 7) = 1   read(0, 60) = 59   device(0, 7) = 2
            tick(2) = 0   tick(1) = 1
            laid d0,0,0;
            read(0, 29) = 0   tick(3) = 0   device(0, 4) = 0   tick(1) = 0   device(0, 4) = 1
            tick(3) = 0   device(0, 4) = 1   tick(1) = 0   device(0, 4) = 2
            laid t50,90,9,9;d0,0,0;t5,10,1,2;
            read(0, 4) = 0   device(0, 7) = 0   read(0, 5) = 4   device(0, 7) = 1
            read(0, 9) = 5   device(0, 7) = 1   read(0, 10) = 9   device(0, 7) = 2
            tick(1) = 0   tick(1) = 1
            read(0, 4) = 10   tick(1) = 0   device(0, 4) = 0   tick(1) = 0   device(0, 4) = 1
            wipe() = 28
            text d0,0,0;
            lay() = 1   read(0, 29) = 0   device(0, 7) = 0   read(0, 59) = 29   device(0, 7) = 1
            fault t0,1,0,1;t1,2,0,1; = 0
            fault t1,2,0,1;t0,1,0,1; = 9
            """);
    }

    private static void phaseItems() {
        the.says("(1 to 9; 3 without; of several the last one counts)", """
            fault v0; = 0
            fault v1; = NONE
            fault v9; = NONE
            fault v10; = 0
            fault v00; = 0
            fault v0;v1; = 0
            fault v1;v0; = 3
            laid d2,0,0;
            read(0, 1) = 0   tick(3) = 1   zone(1, 2) = 0   tick(1) = 0   zone(1, 2) = 2
            laid v1;d2,0,0;v9;
            read(0, 1) = 0   tick(9) = 1   zone(1, 2) = 0   tick(1) = 0   zone(1, 2) = 2
            laid v9;d2,0,0;v1;
            read(0, 1) = 0   tick(1) = 1   zone(1, 2) = 0   tick(1) = 0   zone(1, 2) = 2
            """);
    }

    private static void fault() {
        the.says("FAULT: the place of the first letter of the first ITEM that is not so (or is one too many).", ""
            + "fault x = 0\n"
            + "fault v1;v0;x;v0; = 3\n"
            + "fault v1;d0,0,0;v0; = 10\n"
            + "fault v1;v12345; = 3\n"
            + "fault d0,0,0;d0,0,0;d0,9,0;" + TWELVE + " = 14\n"
            + "fault " + TWELVE + "d9,0,0; = 84\n"
            + "fault " + TWELVE + "d0,0,0;x = 84\n"
            + "fault " + TWELVE + SIX + "v1;t1,2,0,1;x = 150\n"
            + "fault " + "v1;".repeat(66) + "v1 = 198\n"
            + "fault " + "v1;".repeat(66) + " = NONE\n"
            + "fault " + "v1;".repeat(66) + "x = 198\n");
    }

    private static void laid() {
        the.says("LAID is a TEXT without FAULT with a DEVICE at least (NO else", """
            lay() = NO
            text v1;t1,2,0,1;e0,1,0,0;
            fault() = NONE   lay() = NO   count(0) = 8   count(1) = 4
            text d3,5,0
            fault() = 21   lay() = NO   count(0) = 8
            write(59) = 28   fault() = NONE   lay() = 1   count(0) = 1   count(1) = 1
            write(120) = 29   lay() = NO   count(0) = 1   device(0, 1) = 5
            """);
    }

    private static void laidAtFirst() {
        the.says("at first d0,0,1;d1,0,0;d2,1,0;d0,1,1;d3,2,0;d0,2,0;d1,3,1;d0,3,0;e0,15,0,1;e2,15,3,0;e1,3,2,0;e0,4,0,1;"
            + "t20,40,2,4;v3;", """
            count(0) = 8   count(1) = 4   device(8, 0) = BAD   wireOf(8, 0) = 0   wireOf(9, 0) = BAD   effect(4, 0) = BAD
            device(0, 0) = 0   device(1, 0) = 1   device(2, 0) = 2   device(3, 0) = 0
            device(4, 0) = 3   device(5, 0) = 0   device(6, 0) = 1   device(7, 0) = 0
            device(0, 1) = 0   device(1, 1) = 0   device(2, 1) = 1   device(3, 1) = 1
            device(4, 1) = 2   device(5, 1) = 2   device(6, 1) = 3   device(7, 1) = 3
            device(0, 2) = 1   device(1, 2) = 0   device(2, 2) = 0   device(3, 2) = 1
            device(4, 2) = 0   device(5, 2) = 0   device(6, 2) = 1   device(7, 2) = 0
            effect(0, 0) = 0   effect(0, 1) = 15   effect(0, 2) = 0   effect(0, 3) = 1
            effect(1, 0) = 2   effect(1, 1) = 15   effect(1, 2) = 3   effect(1, 3) = 0
            effect(2, 0) = 1   effect(2, 1) = 3   effect(2, 2) = 2   effect(2, 3) = 0
            effect(3, 0) = 0   effect(3, 1) = 4   effect(3, 2) = 0   effect(3, 3) = 1
            read(0, 19) = 0   device(0, 7) = 0   read(0, 20) = 19   device(0, 7) = 1
            read(0, 39) = 20   device(0, 7) = 1   read(0, 40) = 39   device(0, 7) = 2
            read(7, 19) = 0   tick(2) = 0   tick(1) = 1   device(7, 4) = 0   tick(1) = 0   device(7, 4) = 1
            tick(1) = 0   zone(1, 2) = 0   tick(1) = 0   zone(1, 2) = 2   tick(2) = 0   zone(5, 2) = 0
            tick(1) = 0   zone(5, 2) = 3
            """);
    }

    private static void laidAnew() {
        the.says("all WIRES whole, READINGS, BASES, COUNTS 0, no FIRE, DAY, no TICK.", """
            laid d0,0,0;d2,1,0;d1,2,0;d0,3,0;e0,2,0,1;e0,2,9,0;t20,40,9,1;
            read(0, 60) = 0   read(1, 1) = 0   read(2, 10) = 0   tick(2) = 1   silence() = 1   day(0) = 1
            wire(0, 1) = 0   wire(4, 2) = 0
            count(2) = 4   count(3) = 1   count(5) = 1   count(6) = 1   count(7) = 2   count(8) = 0   count(9) = 6
            device(0, 6) = 2   device(2, 4) = 2   effect(1, 5) = 2   zone(1, 1) = 1
            lay() = 4
            wireOf(0, 0) = 0   wireOf(4, 0) = 0   device(0, 3) = 0   device(1, 3) = 0   device(2, 3) = 0
            device(2, 4) = 0   device(0, 6) = 0   device(1, 7) = 0
            count(2) = 0   count(3) = 0   count(4) = 0   count(5) = 0   count(6) = 0   count(7) = 0   count(8) = 1
            count(9) = 0   count(11) = 0   effect(0, 5) = 0   effect(1, 5) = 0   zone(1, 1) = NONE   zone(1, 2) = 0
            read(2, 10) = 0   read(1, 1) = 0   tick(1) = 1   device(2, 4) = 1   effect(1, 6) = 0   zone(1, 1) = 0
            """);
        the.says("`int lay()`: LAID: how many DEVICES.", """
            laid d1,1,1;d1,1,1;e1,3,9,1;t1,2,9,9;v9;
            lay() = 2   wipe() = 35
            text d0,0,0;d0,0,0;d0,0,0;e0,1,0,0;
            device(0, 2) = 1   fault() = NONE   device(0, 2) = 1   count(0) = 2   effect(0, 1) = 3
            lay() = 3   device(0, 2) = 0   device(1, 2) = 0   device(0, 0) = 0   device(0, 1) = 0   device(2, 0) = 0
            effect(0, 0) = 0   effect(0, 1) = 1   effect(0, 2) = 0   effect(0, 3) = 0   read(0, 29) = 0   device(0, 7) = 0
            wipe() = 30   write(100) = 1   fault() = 0   lay() = NO   count(0) = 3   count(1) = 1   device(0, 3) = 29
            """);
    }
}
