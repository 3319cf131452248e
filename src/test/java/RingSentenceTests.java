/** "Terms", 2: STRETCHES, what is REACHED, LOST and STOPS, WORST, HELP; each boundary has a test of its own. */
public final class RingSentenceTests {
    private static final Check check = new Check("RingSentenceTests");
    private static Sentences the;

    private RingSentenceTests() {
    }

    public static void main(String[] args) throws Exception {
        the = new Sentences(check);
        stretches();
        devicesOfStretches();
        dead();
        reached();
        lost();
        stops();
        stopsBy();
        worst();
        help();
        check.end();
    }

    private static void stretches() {
        the.says("A STRETCH is what lies between two ISOLATORS, or an ISOLATOR and the panel, or all, if there is none: "
            + "its WIRES", """
            laid d0,0,0;d0,0,0;
            wireOf(0, 1) = 0   wireOf(1, 1) = 0   wireOf(2, 1) = 0
            laid d0,0,1;
            wireOf(0, 1) = 0   wireOf(1, 1) = 1
            laid d0,0,1;d0,0,1;
            wireOf(0, 1) = 0   wireOf(1, 1) = 1   wireOf(2, 1) = 2
            laid d0,0,0;d0,0,1;d0,0,0;
            wireOf(0, 1) = 0   wireOf(1, 1) = 0   wireOf(2, 1) = 1   wireOf(3, 1) = 1
            wire(0, 2) = 0   device(0, 8) = 0   device(1, 8) = 2   device(2, 8) = 2
            wire(0, 0) = 2   wire(3, 2) = 0   device(0, 8) = 1   device(1, 8) = 1   device(2, 8) = 0
            laid d0,0,1;d0,0,1;d0,0,1;d0,0,1;d0,0,1;d0,0,1;d0,0,1;d0,0,1;d0,0,1;d0,0,1;d0,0,1;d0,0,1;
            wireOf(0, 1) = 0   wireOf(11, 1) = 11   wireOf(12, 1) = 12
            laid d0,0,0;d0,0,0;d0,0,0;d0,0,0;d0,0,0;d0,0,0;d0,0,0;d0,0,0;d0,0,0;d0,0,0;d0,0,0;d0,0,0;
            wireOf(12, 1) = 0   wire(12, 2) = 0   count(2) = 12
            """);
    }

    private static void devicesOfStretches() {
        the.says("and its DEVICES (none with an ISOLATOR is of one).", """
            laid d0,0,1;
            wire(0, 2) = 0   device(0, 8) = 2   wire(1, 2) = 0   device(0, 8) = 0   wire(0, 0) = 2   device(0, 8) = 1
            laid d0,0,1;d0,0,0;d0,0,1;
            wire(1, 2) = 0   device(0, 8) = 1   device(1, 8) = 0   device(2, 8) = 2   count(2) = 1
            wire(1, 0) = 2   wire(2, 2) = 0   device(0, 8) = 1   device(1, 8) = 0   device(2, 8) = 2   count(2) = 1
            laid d0,0,1;d0,0,1;
            wire(1, 2) = 0   device(0, 8) = 1   device(1, 8) = 2   count(2) = 0
            """);
    }

    private static void dead() {
        the.says("It is DEAD, if a WIRE of it is SHORT.", """
            laid d0,0,0;d0,0,0;
            wire(1, 1) = 0   device(0, 8) = 1   device(1, 8) = 2
            wire(1, 2) = 1   device(0, 8) = 0   device(1, 8) = 0
            wire(0, 2) = 0   wire(1, 0) = 2   device(0, 8) = 0   device(1, 8) = 0
            wire(0, 0) = 2   device(0, 8) = 3   device(1, 8) = 3
            wire(2, 2) = 0   device(0, 8) = 0   device(1, 8) = 0
            """);
    }

    private static void reached() {
        the.says("From the panel by WIRE 0, WIRE by WIRE (end A), and by the last one, backwards (end B), as long as the WIRE is not "
            + "CUT and not of a DEAD STRETCH: DEVICES that are come to so are REACHED by that end.", """
            device(0, 8) = 3   device(7, 8) = 3
            wire(0, 1) = 0   device(0, 8) = 2   device(7, 8) = 2
            wire(8, 1) = 0   device(0, 8) = 0   device(7, 8) = 0
            wire(0, 0) = 1   device(0, 8) = 1   device(7, 8) = 1
            wire(8, 2) = 1   device(6, 8) = 1   device(7, 8) = 0
            wire(8, 0) = 2   wire(0, 2) = 0   device(0, 8) = 2   device(7, 8) = 2
            new
            wire(2, 1) = 0   wire(6, 1) = 0
            device(1, 8) = 1   device(2, 8) = 0   device(5, 8) = 0   device(6, 8) = 2
            """);
    }

    private static void lost() {
        the.says("LOST is a DEVICE that neither end REACHES.", """
            count(2) = 0   wire(3, 1) = 0   count(2) = 0   wire(4, 1) = 0   count(2) = 1   zone(1, 4) = 1   zone(2, 4) = 0
            wire(3, 0) = 1   count(2) = 0   wire(4, 0) = 1   wire(0, 1) = 0   wire(8, 2) = 0   count(2) = 8   zone(3, 4) = 2
            """);
    }

    private static void stops() {
        the.says("What STOPS an end ahead of a DEVICE that it does not REACH is the first WIRE on its way there that is CUT or of "
            + "a DEAD STRETCH", """
            stop(0, 1, 1) = NONE   stop(0, 2, 1) = NONE
            wire(0, 1) = 0   stop(0, 1, 1) = 0   stop(7, 1, 1) = 0   stop(0, 2, 1) = NONE
            wire(4, 1) = 0   stop(7, 1, 1) = 0   stop(0, 2, 1) = 4   stop(3, 2, 1) = 4   stop(4, 2, 1) = NONE
            wire(8, 1) = 0   stop(0, 2, 1) = 8   stop(7, 2, 1) = 8
            wire(0, 0) = 1   stop(3, 1, 1) = NONE   stop(4, 1, 1) = 4   stop(7, 1, 1) = 4
            new
            wire(5, 2) = 0   stop(3, 1, 1) = NONE   stop(4, 1, 1) = 4   stop(5, 1, 1) = 4   stop(6, 1, 1) = 4
            stop(6, 2, 1) = NONE   stop(5, 2, 1) = 6   stop(4, 2, 1) = 6   stop(3, 2, 1) = 6   stop(0, 2, 1) = 6
            laid d0,0,0;
            wire(1, 2) = 0   stop(0, 1, 1) = 0   stop(0, 1, 2) = 1   stop(0, 2, 1) = 1   stop(0, 2, 2) = 1
            wire(0, 2) = 0   stop(0, 1, 2) = 0   stop(0, 2, 1) = 1   stop(0, 2, 2) = 0
            """);
    }

    private static void stopsBy() {
        the.says("by 1, if it is CUT (its STRETCH DEAD or not), by 2 else.", """
            stop(4, 1, 0) = 0   stop(4, 2, 0) = 0
            wire(4, 1) = 0   stop(4, 1, 0) = 1   stop(4, 1, 2) = NONE   stop(4, 2, 0) = 0
            wire(5, 2) = 0   stop(4, 1, 0) = 1   stop(4, 1, 2) = 5   stop(4, 2, 0) = 2   stop(4, 2, 1) = 6   stop(4, 2, 2) = 5
            wire(6, 1) = 0   stop(4, 2, 0) = 1   stop(4, 2, 2) = 5
            wire(4, 0) = 1   stop(4, 1, 0) = 2   stop(4, 1, 1) = 4   stop(4, 1, 2) = 5
            wire(4, 2) = 0   stop(4, 1, 2) = 4   stop(4, 2, 2) = 4
            """);
    }

    private static void worst() {
        the.says("WORST: the WIRE that is whole by which, were it SHORT, most DEVICES were LOST (all else as it is), of several "
            + "the lowest.", """
            worst(0) = 1   worst(1) = 2   count(2) = 0
            wire(1, 1) = 0   worst(0) = 7   worst(1) = 7
            wire(7, 1) = 0   worst(0) = 0   worst(1) = 7
            laid d0,0,1;
            worst(0) = 0   worst(1) = 0
            wire(0, 1) = 0   worst(0) = 1   worst(1) = 1
            laid d0,0,0;d0,0,0;
            worst(0) = 0   worst(1) = 2
            wire(0, 2) = 0   worst(0) = 1   worst(1) = 2
            wire(1, 1) = 0   worst(0) = 2   worst(1) = 2
            wire(2, 1) = 0   worst(0) = NONE   worst(1) = NONE
            wire(2, 0) = 1   worst(0) = 2
            laid d0,0,1;d0,0,1;d0,0,0;
            worst(0) = 2   worst(1) = 1
            """);
    }

    private static void help() {
        the.says("HELP: the DEVICE without an ISOLATOR by which, had it one, as many as WORST then loses are fewest, of several "
            + "the lowest.", """
            help(0) = 1   help(1) = 2   device(1, 2) = 0
            laid d0,0,0;d0,0,0;d0,0,0;
            help(0) = 1   help(1) = 1
            laid d0,0,0;d0,0,0;d0,0,0;d0,0,0;
            help(0) = 1   help(1) = 2
            laid d0,0,0;d0,0,0;d0,0,0;d0,0,0;d0,0,0;d0,0,0;d0,0,0;d0,0,0;d0,0,0;d0,0,0;d0,0,0;d0,0,0;
            help(0) = 5   help(1) = 6
            laid d0,0,1;d0,0,0;d0,0,1;
            help(0) = 1   help(1) = 0
            laid d0,0,0;
            help(0) = 0   help(1) = 0
            wire(1, 1) = 0   help(0) = 0   help(1) = 1
            laid d0,0,1;d0,0,1;d0,0,0;
            help(0) = 2   help(1) = 0
            """);
    }
}
