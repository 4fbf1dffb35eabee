/** Promises 10 (swim) and 11 (rest), and what comes as MINUTES go by. */
public final class SwimTest {
    public static void main(String[] args) {
        swim();
        swimBack();
        noSuchBeing();
        oneThatSwims();
        forceBelowStream();
        noStream();
        withAnother();
        apartBehindIt();
        apartWhileItGoes();
        rest();
        restOfNone();
        lessTired();
        severalHours();
        neverBelow0();
        behindWhatIsTold();
        hoursGoRound();
        Checks.finish();
    }

    private static void refused(RopeFerry ferry, int being) {
        Checks.refused(ferry, "swim(" + being + ")", IllegalStateException.class,
                () -> ferry.swim(being));
    }

    /** "one that SWIMS goes to the other BANK" "MINUTES: WIDE and STREAM; 2 more TIRED." */
    private static void swim() {
        RopeFerry ferry = Checks.ferryWith("person 5 60 swims;beast 9 50 swims;wide 33");
        Checks.due("swim(0)", ferry.swim(0), 35);
        Checks.due("CLOCK", ferry.count(2), 35);
        Checks.due("TIRED", ferry.look(0, 4), 2);
        Checks.due("TIRED of another", ferry.look(1, 4), 0);
        Checks.due("BANK", ferry.look(0, 6), 1);
        Checks.due("SWIMS", ferry.count(11), 1);
        Checks.due("CROSSINGS", ferry.count(10), 0);
        Checks.due("BANK of the FERRY", ferry.count(3), 0);
        Checks.due("a beast swims", ferry.swim(1), 35);
        Checks.due("BEINGS at BANK 1", ferry.count(4), 3);
        RopeFerry most = Checks.ferryWith("person 9 1 swims;wide 60;stream 0 9");
        Checks.due("the most MINUTES", most.swim(0), 69);
        RopeFerry least = Checks.ferryWith("person 9 1 swims;wide 1;stream 0 0");
        Checks.due("the least MINUTES", least.swim(0), 1);
    }

    /** "one that SWIMS goes to the other BANK": wherever THE FERRY is. */
    private static void swimBack() {
        RopeFerry ferry = Checks.ferryWith("person 9 5 swims;person 9 5;stream 0 0;boat 0");
        ferry.swim(0);
        Checks.due("back to BANK 0", ferry.swim(0), 10);
        Checks.due("BANK", ferry.look(0, 6), 0);
        Checks.due("SWIMS", ferry.count(11), 2);
        ferry.swim(0);
        ferry.cross(0, 1);
        ferry.swim(0);
        Checks.due("to BANK 0, as THE FERRY is at BANK 1", ferry.look(0, 6), 0);
        Checks.due("BANK of the FERRY", ferry.count(3), 1);
    }

    /** "IndexOutOfBoundsException: there is no such BEING." */
    private static void noSuchBeing() {
        RopeFerry ferry = Checks.ferryWith("person 9 60 swims;lame 1");
        for (int being : new int[] {-1, 2, 10, 32, 1024, Integer.MAX_VALUE, Integer.MIN_VALUE}) {
            Checks.refused(ferry, "swim(" + being + ")", IndexOutOfBoundsException.class,
                    () -> ferry.swim(being));
        }
        Checks.thrown("swim(0) of nobody", IndexOutOfBoundsException.class,
                () -> new RopeFerry().swim(0));
    }

    /** "A SWIM: one that SWIMS": all others are refused. */
    private static void oneThatSwims() {
        RopeFerry ferry = Checks.ferryWith("person 9 1;beast 9 1;goods 1;lame 1;stream 0 0");
        for (int being = 0; being < 4; being++) {
            refused(ferry, being);
        }
    }

    /** "refused, if FORCE is below STREAM of the hour" */
    private static void forceBelowStream() {
        RopeFerry ferry = Checks.ferryWith("person 2 60 swims;person 1 60 swims;stream 1 1");
        refused(ferry, 1);
        Checks.due("FORCE of just STREAM", ferry.swim(0), 12);
        refused(ferry, 0);
        ferry.rest(47);
        refused(ferry, 1);
        ferry.rest(1);
        Checks.due("by STREAM of the next hour", ferry.swim(1), 11);
        refused(ferry, 1);
    }

    /** "FORCE is below STREAM": of STREAM 0 no FORCE is below it. */
    private static void noStream() {
        RopeFerry ferry = Checks.ferryWith("person 0 60 swims;stream 0 0");
        Checks.due("FORCE", ferry.look(0, 5), 0);
        Checks.due("no STREAM, no FORCE", ferry.swim(0), 10);
        Checks.due("again", ferry.swim(0), 10);
        Checks.due("TIRED", ferry.look(0, 4), 4);
    }

    /** "one must go WITH another" "and does not SWIM" */
    private static void withAnother() {
        RopeFerry ferry = Checks.ferryWith("person 9 1 swims;person 9 1 swims;with 1 0;stream 0 0");
        refused(ferry, 1);
        Checks.due("who goes with none may", ferry.swim(0), 10);
        refused(ferry, 1);
    }

    /** "or two who are APART would be on a BANK alone .. or behind it." */
    private static void apartBehindIt() {
        RopeFerry ferry = Checks.ferryWith(
                "person 9 5 swims;person 9 5 swims;person 9 5 swims;lame 1;stream 0 0;apart 0 1 unless 2");
        ferry.swim(0);
        refused(ferry, 1);
        ferry.swim(2);
        Checks.due("where 2 is already", ferry.swim(1), 10);
        refused(ferry, 2);
        Checks.due("one of the two", ferry.swim(0), 10);
        RopeFerry never = Checks.ferryWith("person 9 5 swims;person 9 5 swims;apart 0 1");
        Checks.due("away from the other", never.swim(0), 12);
        refused(never, 0);
        refused(never, 1);
    }

    /** "would be on a BANK alone, while that goes" */
    private static void apartWhileItGoes() {
        RopeFerry ferry = Checks.ferryWith("lame 1;lame 1;person 9 5 swims;person 9 5 swims;stream 0 0",
                "apart 0 1 unless 2");
        refused(ferry, 2);
        Checks.due("another may go", ferry.swim(3), 10);
        RopeFerry far = Checks.ferryWith("lame 1;lame 1;person 9 5 swims;person 9 5 swims;stream 0 0");
        far.swim(3);
        far.cross(3, 8);
        Checks.river(far, "apart 0 1 unless 2");
        // 2 would come too late to those who are on the other BANK.
        refused(far, 2);
    }

    /** "A REST: 1 to 600 MINUTES." "REST: the CLOCK." */
    private static void rest() {
        RopeFerry ferry = new RopeFerry();
        Checks.due("rest(1)", ferry.rest(1), 1);
        Checks.due("rest(600)", ferry.rest(600), 601);
        Checks.due("rest(600)", ferry.rest(600), 1201);
        Checks.due("CLOCK", ferry.count(2), 1201);
    }

    /** "IllegalArgumentException: MINUTES are none." */
    private static void restOfNone() {
        RopeFerry ferry = Checks.ferryWith("person 9 5 swims");
        ferry.swim(0);
        for (int minutes : new int[] {0, 601, -1, -600, Integer.MIN_VALUE, Integer.MAX_VALUE}) {
            Checks.refused(ferry, "rest(" + minutes + ")", IllegalArgumentException.class,
                    () -> ferry.rest(minutes));
        }
    }

    /** "for each full hour that the CLOCK has come to all are 1 less TIRED" */
    private static void lessTired() {
        RopeFerry ferry = Checks.ferryWith("person 9 5 swims;beast 9 5 swims;stream 0 0");
        ferry.swim(0);
        ferry.swim(1);
        ferry.rest(39);
        Checks.due("TIRED at 59", ferry.look(0, 4), 2);
        ferry.rest(1);
        Checks.due("TIRED at 60", ferry.look(0, 4), 1);
        Checks.due("TIRED of another", ferry.look(1, 4), 1);
        ferry.rest(59);
        Checks.due("TIRED at 119", ferry.look(0, 4), 1);
        ferry.rest(1);
        Checks.due("TIRED at 120", ferry.look(0, 4), 0);
    }

    /** "for each full hour": of several at once, of each one. */
    private static void severalHours() {
        RopeFerry ferry = Checks.ferryWith("person 9 1 swims;stream 0 0;wide 1");
        for (int n = 0; n < 9; n++) {
            ferry.swim(0);
        }
        Checks.due("TIRED at 9", ferry.look(0, 4), 18);
        ferry.rest(170);
        Checks.due("TIRED at 179", ferry.look(0, 4), 16);
        ferry.rest(181);
        Checks.due("TIRED at 360", ferry.look(0, 4), 12);
        ferry.rest(600);
        Checks.due("TIRED at 960", ferry.look(0, 4), 2);
    }

    /** "all are 1 less TIRED (0 at least)" */
    private static void neverBelow0() {
        RopeFerry ferry = Checks.ferryWith("person 9 1 swims;lame 5;stream 0 0;wide 1");
        ferry.rest(600);
        Checks.due("TIRED of who never was", ferry.look(0, 4), 0);
        ferry.swim(0);
        ferry.rest(600);
        Checks.due("TIRED of 2 behind 10 hours", ferry.look(0, 4), 0);
        ferry.swim(0);
        Checks.due("nothing is kept for later", ferry.look(0, 4), 2);
    }

    /** "When MINUTES go by .. all are 1 less TIRED (0 at least); behind what is told above." */
    private static void behindWhatIsTold() {
        RopeFerry ferry = Checks.ferryWith("person 9 5 swims;person 9 5;stream 0 0;wide 60;boat 0");
        ferry.swim(0);
        // 2 more by the SWIM, then 1 less as the CLOCK comes to 60.
        Checks.due("TIRED at 60", ferry.look(0, 4), 1);
        ferry.rest(53);
        Checks.due("cross(2, 1)", ferry.cross(2, 1), 8);
        Checks.due("CLOCK", ferry.count(2), 121);
        Checks.due("TIRED: 1 more, 1 less", ferry.look(0, 4), 1);
        Checks.due("TIRED of who was pulled", ferry.look(1, 4), 0);
        Checks.river(ferry, "person 9 9;wide 2");
        ferry.rest(58);
        Checks.due("CLOCK", ferry.count(2), 179);
        Checks.due("cross(2, 4)", ferry.cross(2, 4), 1);
        Checks.due("TIRED of who pulled as the hour came", ferry.look(2, 4), 0);
        Checks.due("TIRED of who stood there", ferry.look(0, 4), 0);
    }

    /** "the hour: CLOCK by 60, rounded down, modulo 24." */
    private static void hoursGoRound() {
        RopeFerry ferry = Checks.ferryWith("stream 0 1;stream 1 2;stream 23 7");
        ferry.rest(59);
        Checks.due("STREAM at 59", ferry.count(5), 1);
        ferry.rest(1);
        Checks.due("STREAM at 60", ferry.count(5), 2);
        ferry.rest(600);
        ferry.rest(600);
        ferry.rest(119);
        Checks.due("STREAM at 1379", ferry.count(5), 2);
        ferry.rest(1);
        Checks.due("STREAM at 1380", ferry.count(5), 7);
        ferry.rest(59);
        Checks.due("STREAM at 1439", ferry.count(5), 7);
        ferry.rest(1);
        Checks.due("STREAM at 1440", ferry.count(5), 1);
        Checks.due("CLOCK goes on", ferry.count(2), 1440);
        for (int n = 0; n < 480; n++) {
            ferry.rest(600);
        }
        Checks.due("CLOCK behind many days", ferry.count(2), 1440 + 288000);
        Checks.due("STREAM behind 200 days", ferry.count(5), 1);
    }
}
