/** Promises 8 (need) and 9 (cross). */
public final class CrossingTest {
    private static final String FIVE =
            "person 9 5 swims;beast 0 5;goods 5;lame 5;person 9 5;stream 0 0;boat 0";

    public static void main(String[] args) {
        need();
        needOfNothing();
        needOfMuch();
        needWhereverTheyAre();
        needOfNone();
        loadOfThoseThere();
        noLoad();
        pullersOfTheOtherBank();
        noPullers();
        rope();
        ropeOfTheBoatAlone();
        forceBelowNeed();
        forceOfNone();
        goesWith();
        apartWhileItGoes();
        apartBehindIt();
        apartOnTheOtherBank();
        apartOnTheFerry();
        minutes();
        oneMinuteAtLeast();
        behindACrossing();
        thereAndBack();
        Checks.finish();
    }

    private static void refused(RopeFerry ferry, int load, int pullers) {
        Checks.refused(ferry, "cross(" + load + ", " + pullers + ")", IllegalStateException.class,
                () -> ferry.cross(load, pullers));
    }

    private static void goes(RopeFerry ferry, int load, int pullers, int minutes) {
        Checks.due("cross(" + load + ", " + pullers + ")", ferry.cross(load, pullers), minutes);
    }

    /** "STREAM of the hour, and a 20th of all WEIGHT (BOAT, too), rounded up." */
    private static void need() {
        RopeFerry ferry = Checks.ferryWith("person 5 1;goods 20;goods 99;stream 1 9");
        Checks.due("need(0), 20 of BOAT", ferry.need(0), 3);
        Checks.due("need(1), 21", ferry.need(1), 4);
        Checks.due("need(2), 40", ferry.need(2), 4);
        Checks.due("need(3), 41", ferry.need(3), 5);
        Checks.due("need(4), 119", ferry.need(4), 8);
        Checks.due("need(5), 120", ferry.need(5), 8);
        Checks.due("need(7), 140", ferry.need(7), 9);
        ferry.rest(59);
        Checks.due("need(0) at the end of the hour", ferry.need(0), 3);
        ferry.rest(1);
        Checks.due("need(0) by STREAM of the next", ferry.need(0), 10);
    }

    /** "STREAM 0 to 9", "BOAT: WEIGHT of THE FERRY, 0 to 99": NEED can be 0. */
    private static void needOfNothing() {
        RopeFerry ferry = Checks.ferryWith("person 5 1;stream 0 0;boat 0");
        Checks.due("need(0) of nothing", ferry.need(0), 0);
        Checks.due("need(1) of 1", ferry.need(1), 1);
    }

    /** "WEIGHT 1 to 99", "0 to 99 (20)", "STREAM 0 to 9": the most that NEED can be. */
    private static void needOfMuch() {
        RopeFerry ferry = Checks.ferryWith(Checks.times("goods 99", 10) + ";stream 0 9;boat 99");
        Checks.due("need(1023)", ferry.need(1023), 9 + 55);
    }

    /** "NEED for a load (whoever is where)." */
    private static void needWhereverTheyAre() {
        RopeFerry ferry = Checks.ferryWith("person 5 1 swims;goods 20");
        int before = ferry.need(1);
        ferry.swim(0);
        Checks.due("need(1), who is on the other BANK", ferry.need(1), before);
        Checks.due("need(3), of both BANKS", ferry.need(3), 5);
    }

    /** "Sets are bits; of none they count for nothing" */
    private static void needOfNone() {
        RopeFerry ferry = Checks.ferryWith("person 5 1;goods 20");
        Checks.due("need(-1), by those that there are", ferry.need(-1), ferry.need(3));
        Checks.due("need(4), of nobody", ferry.need(4), ferry.need(0));
        Checks.due("need(MIN), of nobody", ferry.need(Integer.MIN_VALUE), ferry.need(0));
        Checks.due("need(-1), where nobody is", new RopeFerry().need(-1), 3);
    }

    /** "a load (a set of BEINGS that are there" "those that are not there are refused" */
    private static void loadOfThoseThere() {
        RopeFerry ferry = Checks.ferryWith(FIVE);
        ferry.swim(0);
        refused(ferry, 1, 1);
        refused(ferry, 1 | 4, 1);
        for (int none : new int[] {32, 512, 1024, 1 << 20, Integer.MIN_VALUE, -1}) {
            refused(ferry, none, 1);
            refused(ferry, none | 4, 1);
        }
        goes(ferry, 4, 1, 2);
        refused(ferry, 2, 16);
        refused(ferry, 2 | 4, 16);
        goes(ferry, 4, 16, 2);
    }

    /** "a load (a set of BEINGS that are there, perhaps none)" */
    private static void noLoad() {
        RopeFerry ferry = Checks.ferryWith(FIVE);
        ferry.swim(0);
        goes(ferry, 0, 1, 1);
        Checks.due("BANK of the FERRY", ferry.count(3), 1);
        Checks.due("BEINGS at BANK 1", ferry.count(4), 1);
        Checks.due("TIRED of the PULLER", ferry.look(0, 4), 3);
    }

    /** "PULLERS (a set of BEINGS of the other BANK" "those that are not there are refused" */
    private static void pullersOfTheOtherBank() {
        RopeFerry ferry = Checks.ferryWith(FIVE);
        ferry.swim(0);
        refused(ferry, 4, 16);
        refused(ferry, 4, 1 | 16);
        refused(ferry, 4, 1 | 4);
        for (int none : new int[] {32, 512, 1024, 1 << 20, Integer.MIN_VALUE, -1}) {
            refused(ferry, 4, none);
            refused(ferry, 4, none | 1);
        }
        goes(ferry, 4, 1, 2);
        refused(ferry, 4, 1);
        refused(ferry, 4, 1 | 16);
        goes(ferry, 4, 16, 2);
    }

    /** "PULLERS (a set of BEINGS of the other BANK, perhaps none)": their FORCE "is 0". */
    private static void noPullers() {
        RopeFerry ferry = Checks.ferryWith(FIVE);
        refused(ferry, 0, 0);
        refused(ferry, 4, 0);
        ferry.swim(0);
        refused(ferry, 0, 0);
        refused(ferry, 4, 0);
        refused(new RopeFerry(), 0, 0);
    }

    /** "refused, if WEIGHT of all is above ROPE" */
    private static void rope() {
        String all = "person 9 10 swims;goods 60;goods 1;stream 0 0;rope ";
        RopeFerry ferry = Checks.ferryWith(all + 80);
        ferry.swim(0);
        refused(ferry, 2 | 4, 1);
        goes(ferry, 2, 1, 6);
        RopeFerry more = Checks.ferryWith(all + 79);
        more.swim(0);
        refused(more, 2, 1);
        goes(more, 4, 1, 3);
    }

    /** "refused, if WEIGHT of all is above ROPE": also without a load. */
    private static void ropeOfTheBoatAlone() {
        RopeFerry ferry = Checks.ferryWith("person 9 10 swims;boat 21;rope 20;stream 0 0");
        ferry.swim(0);
        refused(ferry, 0, 1);
        Checks.river(ferry, "rope 21");
        goes(ferry, 0, 1, 3);
    }

    /** "FORCE of all PULLERS is below NEED" */
    private static void forceBelowNeed() {
        RopeFerry ferry = Checks.ferryWith("person 5 5 swims;person 4 5 swims;goods 60;goods 40;goods 1;"
                + "stream 0 0;boat 0;wide 1");
        ferry.swim(0);
        // FORCE is 3 behind the SWIM.
        refused(ferry, 4 | 16, 1);
        goes(ferry, 4, 1, 1);
        ferry.swim(1);
        // FORCE of both is 4 now, and THE FERRY at BANK 1.
        Checks.river(ferry, "person 9 5");
        goes(ferry, 0, 32, 1);
        refused(ferry, 8 | 16, 1);
        refused(ferry, 8 | 16, 2);
        Checks.due("need(24)", ferry.need(8 | 16), 3);
        goes(ferry, 8 | 16, 1 | 2, 1);
    }

    /** "FORCE of all PULLERS is below NEED, or is 0" */
    private static void forceOfNone() {
        RopeFerry ferry = Checks.ferryWith("person 2 5 swims;goods 5;person 9 5;lame 5;stream 0 0;boat 0");
        ferry.swim(0);
        Checks.due("FORCE", ferry.look(0, 5), 0);
        Checks.due("need(0)", ferry.need(0), 0);
        refused(ferry, 0, 1);
        Checks.river(ferry, "person 9 5 swims");
        ferry.swim(4);
        goes(ferry, 2 | 8, 1 | 16, 2);
        refused(ferry, 2, 0);
        ferry.cross(0, 4);
        refused(ferry, 0, 2);
        refused(ferry, 0, 2 | 8);
    }

    /** "with: A goes on THE FERRY only with B" "somebody is there without whom one must go WITH" */
    private static void goesWith() {
        RopeFerry ferry = Checks.ferryWith("person 9 5 swims;goods 5;goods 5;goods 5;person 9 5;"
                + "with 1 2;with 1 3;stream 0 0;boat 0");
        ferry.swim(0);
        refused(ferry, 2, 1);
        refused(ferry, 2 | 4, 1);
        refused(ferry, 2 | 8, 1);
        // B may go without A.
        goes(ferry, 4, 1, 2);
        // B is on the other BANK, not on THE FERRY.
        ferry.cross(0, 16);
        refused(ferry, 2 | 8, 1);
        goes(ferry, 8, 1, 2);
        goes(ferry, 4 | 8, 16, 2);
        goes(ferry, 2 | 4 | 8, 1, 2);
        refused(ferry, 2, 16);
    }

    /** "or two who are APART would be on a BANK alone, while it goes (those of the load are on none)" */
    private static void apartWhileItGoes() {
        for (String apart : new String[] {"apart 1 2 unless 3", "apart 2 1 unless 3"}) {
            RopeFerry ferry = Checks.ferryWith(FIVE + ";" + apart);
            ferry.swim(0);
            // 3 leaves 1 and 2 alone.
            refused(ferry, 8, 1);
            refused(ferry, 8 | 16, 1);
            goes(ferry, 2 | 8, 1, 2);
            goes(ferry, 8, 16, 2);
            refused(ferry, 4, 1);
            goes(ferry, 4 | 8, 1, 2);
        }
    }

    /** "or two who are APART would be on a BANK alone .. or behind it." */
    private static void apartBehindIt() {
        RopeFerry ferry = Checks.ferryWith(FIVE + ";apart 0 4");
        ferry.swim(0);
        refused(ferry, 16, 1);
        refused(ferry, 2 | 16, 1);
        goes(ferry, 2, 1, 2);
        RopeFerry unless = Checks.ferryWith(FIVE + ";apart 0 4 unless 3");
        unless.swim(0);
        refused(unless, 16, 1);
        goes(unless, 8 | 16, 1, 2);
        refused(unless, 8, 1);
    }

    /** "would be on a BANK alone, while it goes": who comes too late is no help on the other BANK. */
    private static void apartOnTheOtherBank() {
        RopeFerry ferry = Checks.ferryWith(FIVE);
        ferry.swim(0);
        ferry.cross(2 | 4, 1);
        ferry.cross(0, 16);
        ferry.image();
        goes(ferry, 8, 1, 2);
        ferry.back();
        Checks.river(ferry, "apart 1 2 unless 3");
        refused(ferry, 8, 1);
        refused(ferry, 0, 1);
        // They are alone as THE FERRY leaves them behind, too.
        ferry.back();
        ferry.cross(8, 1);
        Checks.river(ferry, "apart 1 2 unless 3");
        refused(ferry, 8, 16);
        goes(ferry, 2 | 8, 16, 2);
    }

    /** "(those of the load are on none)": two who are APART may be on THE FERRY. */
    private static void apartOnTheFerry() {
        RopeFerry ferry = Checks.ferryWith(FIVE + ";person 9 5 swims;apart 1 2 unless 5");
        ferry.swim(0);
        refused(ferry, 2 | 4, 1);
        ferry.image();
        goes(ferry, 2 | 4 | 32, 1, 2);
        ferry.back();
        // While 5 is away from 1 and 2 nobody may be: it takes one of them along.
        goes(ferry, 2 | 32, 1, 2);
        ferry.cross(0, 16);
        goes(ferry, 4, 1, 2);
        Checks.due("BEINGS at BANK 1", ferry.count(4), 1 | 2 | 4 | 32);
    }

    /** "MINUTES: WIDE times NEED by FORCE of PULLERS, rounded up" */
    private static void minutes() {
        RopeFerry ferry = Checks.ferryWith("person 9 10 swims;person 9 20 swims;lame 30;beast 7 40;"
                + "stream 0 1;wide 7");
        ferry.swim(0);
        ferry.swim(1);
        // 7 times 6 by 14.
        goes(ferry, 4 | 8, 1 | 2, 3);
        Checks.river(ferry, "person 9 5;person 8 5");
        // 7 times 2 by 9, and by 17.
        ferry.image();
        goes(ferry, 0, 16, 2);
        ferry.back();
        goes(ferry, 0, 16 | 32, 1);
        ferry.back();
        Checks.river(ferry, "wide 60;stream 0 6");
        // 60 times 7 by 8: 52 and a half; by 7: 60.
        goes(ferry, 0, 32, 53);
        Checks.due("FORCE", ferry.look(0, 5), 7);
        goes(ferry, 0, 1, 60);
    }

    /** "(1 at least)": where NEED is 0. */
    private static void oneMinuteAtLeast() {
        RopeFerry ferry = Checks.ferryWith("person 9 1 swims;stream 0 0;boat 0;wide 60");
        ferry.swim(0);
        Checks.due("need(0)", ferry.need(0), 0);
        int before = ferry.count(2);
        goes(ferry, 0, 1, 1);
        Checks.due("CLOCK", ferry.count(2), before + 1);
    }

    /** "Then the load and THE FERRY are on the other BANK; all PULLERS are 1 more TIRED" */
    private static void behindACrossing() {
        RopeFerry ferry = Checks.ferryWith(
                "person 9 10 swims;person 9 20 swims;lame 30;beast 7 40;goods 5;stream 0 1;wide 7");
        ferry.swim(0);
        ferry.swim(1);
        Checks.due("CLOCK behind two SWIMS", ferry.count(2), 16);
        ferry.cross(4 | 8, 1);
        Checks.due("CLOCK", ferry.count(2), 16 + 6);
        Checks.due("BANK of the FERRY", ferry.count(3), 1);
        Checks.due("BEINGS at BANK 1", ferry.count(4), 15);
        Checks.due("CROSSINGS", ferry.count(10), 1);
        Checks.due("SWIMS", ferry.count(11), 2);
        Checks.due("TIRED of the PULLER", ferry.look(0, 4), 3);
        Checks.due("TIRED of who did not pull", ferry.look(1, 4), 2);
        Checks.due("TIRED of the load", ferry.look(3, 4), 0);
        // "all PULLERS": also those without FORCE.
        Checks.river(ferry, "person 9 1");
        ferry.cross(0, 16 | 32);
        Checks.due("TIRED of goods that pull", ferry.look(4, 4), 1);
        Checks.due("FORCE of goods", ferry.look(4, 5), 0);
    }

    /** "A CROSSING by THE FERRY from its BANK": from BANK 1 as from BANK 0. */
    private static void thereAndBack() {
        RopeFerry ferry = Checks.ferryWith(FIVE + ";wide 3");
        ferry.swim(0);
        goes(ferry, 4 | 8, 1, 1);
        goes(ferry, 8, 16, 1);
        Checks.due("BEINGS at BANK 1", ferry.count(4), 1 | 4);
        Checks.due("BANK of the FERRY", ferry.count(3), 0);
        goes(ferry, 16, 1, 1);
        refused(ferry, 0, 2 | 8);
    }
}
