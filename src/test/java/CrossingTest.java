/** Promises 7 (look), 8 (need), 9 (cross), 10 (swim), 11 (rest), 12 (may). */
public final class CrossingTest {
    public static void main(String[] args) {
        look();
        need();
        crossRefused();
        crossMinutes();
        ropeBears();
        goesWith();
        apartWhileItGoes();
        swim();
        swimRefused();
        rest();
        tiredAndHours();
        may();
        Checks.finish();
    }

    private static void refused(RopeFerry ferry, int load, int pullers) {
        java.util.List<Integer> before = Checks.answersOf(ferry);
        Checks.thrown("cross(" + load + ", " + pullers + ")", IllegalStateException.class,
                () -> ferry.cross(load, pullers));
        Checks.same("behind a refused crossing", Checks.answersOf(ferry), before);
    }

    private static void look() {
        RopeFerry ferry = Checks.ferryWith("person 7 60 swims;lame 5");
        ferry.swim(0);
        int[] due = {0, 7, 60, 1, 2, 5, 1, 0};
        for (int what = 0; what < 8; what++) {
            Checks.due("look(0, " + what + ")", ferry.look(0, what), due[what]);
        }
        ferry.cross(2, 1);
        Checks.due("BALANCE of who pulled", ferry.look(0, 7), 1);
        Checks.due("BALANCE of who was pulled", ferry.look(1, 7), -1);
        Checks.thrown("look(0, 8)", java.util.NoSuchElementException.class, () -> ferry.look(0, 8));
        Checks.thrown("look(1, -1)", java.util.NoSuchElementException.class,
                () -> ferry.look(1, -1));
        for (int being : new int[] {2, -1, 10, Integer.MIN_VALUE, Integer.MAX_VALUE}) {
            Checks.thrown("look(" + being + ", 9)", IndexOutOfBoundsException.class,
                    () -> ferry.look(being, 9));
        }
    }

    private static void need() {
        RopeFerry ferry = Checks.ferryWith("person 5 1 swims;goods 20;goods 99");
        Checks.due("need(0)", ferry.need(0), 3);
        Checks.due("need(1), rounded up", ferry.need(1), 4);
        Checks.due("need(2)", ferry.need(2), 4);
        Checks.due("need(3), rounded up", ferry.need(3), 5);
        Checks.due("need(7)", ferry.need(7), 9);
        Checks.due("need(-1), by those that there are", ferry.need(-1), 9);
        Checks.due("need(8), of nobody", ferry.need(8), 3);
        ferry.swim(0);
        Checks.due("need(1), who is on the other BANK", ferry.need(1), 4);
        Checks.river(ferry, "boat 0;stream 0 0;stream 1 9");
        Checks.due("need(0) of nothing", ferry.need(0), 0);
        Checks.due("need(1) of 1", ferry.need(1), 1);
        ferry.rest(60);
        Checks.due("need(0) by STREAM of the hour", ferry.need(0), 9);
    }

    private static void crossRefused() {
        RopeFerry ferry = Checks.ferryWith("person 3 10 swims;person 9 20;goods 10;stream 0 0");
        refused(ferry, 0, 0);
        refused(ferry, 0, 2);
        refused(ferry, 8, 1);
        ferry.swim(0);
        refused(ferry, 1, 1);
        refused(ferry, 2, 4);
        refused(ferry, 2, 5);
        refused(ferry, 8, 1);
        refused(ferry, 2, 9);
        refused(ferry, Integer.MIN_VALUE, 1);
        refused(ferry, 1024, 1);
        refused(ferry, 2, -1);
        // FORCE of 0 is 1, by TIRED of 2; NEED is 1 without a load.
        Checks.due("cross(0, 1)", ferry.cross(0, 1), 10);
        Checks.due("TIRED", ferry.look(0, 4), 3);
        Checks.due("BANK of the FERRY", ferry.count(3), 1);
        refused(ferry, 4, 2);
        Checks.river(ferry, "boat 0");
        // NEED is 0 now, but FORCE of 0 pulls nothing.
        ferry.cross(0, 2);
        refused(ferry, 0, 1);
        refused(ferry, 0, 0);
    }

    private static void crossMinutes() {
        RopeFerry ferry = Checks.ferryWith(
                "person 9 10 swims;person 9 20 swims;lame 30;beast 7 40;stream 0 1;wide 7");
        ferry.swim(0);
        ferry.swim(1);
        Checks.due("CLOCK behind two SWIMS", ferry.count(2), 16);
        // NEED 1 and 90 by 20 rounded up: 6; FORCE 7 and 7.
        Checks.due("cross(12, 3)", ferry.cross(12, 3), 3);
        Checks.due("CLOCK", ferry.count(2), 19);
        Checks.due("BANK of the FERRY", ferry.count(3), 1);
        Checks.due("BEINGS at BANK 1", ferry.count(4), 15);
        Checks.due("CROSSINGS", ferry.count(10), 1);
        Checks.due("TIRED of a PULLER", ferry.look(0, 4), 3);
        Checks.due("TIRED of the load", ferry.look(3, 4), 0);
        Checks.river(ferry, "boat 0;stream 0 0;wide 60;goods 1;person 9 1");
        // NEED 0: still one minute; a puller without FORCE is TIRED, too.
        Checks.due("cross(0, 48)", ferry.cross(0, 48), 1);
        Checks.due("TIRED of goods that pull", ferry.look(4, 4), 1);
        Checks.due("FORCE of goods", ferry.look(4, 5), 0);
        Checks.due("CLOCK", ferry.count(2), 20);
    }

    private static void ropeBears() {
        RopeFerry ferry = Checks.ferryWith("person 9 10 swims;goods 60;goods 1;rope 80;stream 0 0");
        ferry.swim(0);
        refused(ferry, 6, 1);
        Checks.due("just what ROPE bears, BOAT too", ferry.cross(2, 1), 6);
        Checks.river(ferry, "boat 21;person 9 9");
        ferry.cross(0, 8);
        Checks.river(ferry, "rope 21");
        refused(ferry, 4, 1);
        Checks.river(ferry, "rope 20");
        refused(ferry, 0, 1);
    }

    private static void goesWith() {
        RopeFerry ferry = Checks.ferryWith(
                "person 9 5 swims;goods 5;goods 5;goods 5;with 1 2;with 1 3;stream 0 0;boat 0");
        ferry.swim(0);
        refused(ferry, 2, 1);
        refused(ferry, 2 | 4, 1);
        refused(ferry, 2 | 8, 1);
        Checks.due("2 may go without 1", ferry.cross(4, 1), 2);
        Checks.river(ferry, "person 9 5");
        ferry.cross(4, 16);
        Checks.due("1 goes with both", ferry.cross(2 | 4 | 8, 1), 2);
    }

    private static void apartWhileItGoes() {
        String all = "person 9 5 swims;beast 0 5;goods 5;lame 5;person 9 5;stream 0 0;boat 0;";
        for (String apart : new String[] {"apart 1 2 unless 3", "apart 2 1 unless 3"}) {
            RopeFerry ferry = Checks.ferryWith(all + apart);
            ferry.swim(0);
            refused(ferry, 8, 1);
            refused(ferry, 2 | 4, 1);
            Checks.due("1 and 3 go", ferry.cross(2 | 8, 1), 2);
            Checks.due("3 comes back", ferry.cross(8, 16), 2);
            refused(ferry, 4, 1);
            Checks.due("2 and 3 go", ferry.cross(4 | 8, 1), 2);
            refused(ferry, 8, 16);
            Checks.due("3 stays", ferry.cross(0, 16), 1);
            Checks.due("4 goes", ferry.cross(16, 1), 2);
            Checks.due("BEINGS at BANK 1", ferry.count(4), 31);
        }
        RopeFerry never = Checks.ferryWith(all + "apart 0 4");
        Checks.thrown("swim(0), told of another", IndexOutOfBoundsException.class,
                () -> never.swim(5));
        Checks.due("one of the two swims away", never.swim(0), 10);
        refused(never, 16, 1);
        Checks.due("another goes over", never.cross(2, 1), 2);
        Checks.thrown("back to who is apart", IllegalStateException.class, () -> never.swim(0));
        otherBankWhileItGoes(all);
    }

    /** Who comes too late to the other BANK does not help those who are alone till then. */
    private static void otherBankWhileItGoes(String all) {
        RopeFerry ferry = Checks.ferryWith(all + "lame 9");
        ferry.swim(0);
        ferry.cross(2 | 4, 1);
        ferry.cross(0, 16);
        ferry.image();
        Checks.due("without any apart", ferry.cross(8, 1), 2);
        ferry.back();
        Checks.river(ferry, "apart 1 2 unless 3;person 9 9 swims;apart 1 2 unless 6");
        refused(ferry, 8, 1);
        refused(ferry, 0, 1);
        Checks.thrown("swim(6)", IllegalStateException.class, () -> ferry.swim(6));
    }

    private static void swim() {
        RopeFerry ferry = Checks.ferryWith("person 5 60 swims;beast 9 50 swims;wide 33");
        Checks.due("swim(0)", ferry.swim(0), 35);
        Checks.due("TIRED", ferry.look(0, 4), 2);
        Checks.due("BANK", ferry.look(0, 6), 1);
        Checks.due("SWIMS", ferry.count(11), 1);
        Checks.due("CROSSINGS", ferry.count(10), 0);
        Checks.due("BANK of the FERRY", ferry.count(3), 0);
        Checks.due("swim back, and a full hour", ferry.swim(0), 35);
        Checks.due("TIRED behind a full hour", ferry.look(0, 4), 3);
        Checks.due("FORCE is STREAM", ferry.look(0, 5), 2);
        Checks.due("swim(0)", ferry.swim(0), 35);
        Checks.thrown("swim(0), FORCE below STREAM", IllegalStateException.class,
                () -> ferry.swim(0));
        Checks.due("a beast swims", ferry.swim(1), 35);
        Checks.due("SWIMS", ferry.count(11), 4);
        Checks.due("CLOCK", ferry.count(2), 140);
    }

    private static void swimRefused() {
        RopeFerry ferry = Checks.ferryWith("person 5 60;person 5 60 swims;lame 3;goods 3;"
                + "person 1 9 swims;beast 9 9 swims;person 2 9 swims;with 1 0;apart 5 3;apart 6 0");
        for (int being : new int[] {-1, 7, 10, 32, Integer.MAX_VALUE, Integer.MIN_VALUE}) {
            Checks.thrown("swim(" + being + ")", IndexOutOfBoundsException.class,
                    () -> ferry.swim(being));
        }
        java.util.List<Integer> before = Checks.answersOf(ferry);
        for (int being = 0; being < 6; being++) {
            int who = being;
            Checks.thrown("swim(" + being + ")", IllegalStateException.class,
                    () -> ferry.swim(who));
        }
        Checks.same("behind refused swims", Checks.answersOf(ferry), before);
        RopeFerry last = Checks.ferryWith("person 2 60 swims;person 1 60 swims;beast 0 5;apart 0 2;"
                + "stream 1 1;stream 2 0");
        Checks.due("FORCE of just STREAM", last.swim(0), 12);
        Checks.thrown("FORCE below STREAM", IllegalStateException.class, () -> last.swim(1));
        last.rest(60);
        Checks.due("by STREAM of the hour", last.swim(1), 11);
        Checks.thrown("STREAM of 1", IllegalStateException.class, () -> last.swim(1));
        last.rest(60);
        Checks.due("TIRED", last.look(1, 4), 1);
        Checks.due("FORCE", last.look(1, 5), 0);
        Checks.due("no STREAM, no FORCE", last.swim(1), 10);
        Checks.due("who must not be alone with whom", last.look(0, 6), 1);
        Checks.thrown("to BANK 0, where 2 is", IllegalStateException.class, () -> last.swim(0));
    }

    private static void rest() {
        RopeFerry ferry = new RopeFerry();
        Checks.due("rest(1)", ferry.rest(1), 1);
        Checks.due("rest(600)", ferry.rest(600), 601);
        for (int minutes : new int[] {0, 601, -1, Integer.MIN_VALUE, Integer.MAX_VALUE}) {
            Checks.thrown("rest(" + minutes + ")", IllegalArgumentException.class,
                    () -> ferry.rest(minutes));
        }
        Checks.due("CLOCK", ferry.count(2), 601);
        Checks.due("rest(600)", ferry.rest(600), 1201);
    }

    private static void tiredAndHours() {
        RopeFerry ferry = Checks.ferryWith("person 9 5 swims;person 5 5;stream 0 0;wide 60;boat 0");
        ferry.swim(0);
        // 2 more TIRED by the swim, 1 less as the clock comes to 60.
        Checks.due("TIRED at 60", ferry.look(0, 4), 1);
        ferry.rest(59);
        Checks.due("TIRED at 119", ferry.look(0, 4), 1);
        ferry.rest(1);
        Checks.due("TIRED at 120", ferry.look(0, 4), 0);
        ferry.swim(0);
        ferry.swim(0);
        Checks.due("TIRED at 240", ferry.look(0, 4), 2);
        ferry.rest(70);
        Checks.due("TIRED at 310", ferry.look(0, 4), 1);
        ferry.rest(600);
        Checks.due("never below 0", ferry.look(0, 4), 0);
        Checks.due("cross(2, 1)", ferry.cross(2, 1), 7);
        Checks.due("CLOCK", ferry.count(2), 917);
        Checks.due("TIRED, no full hour", ferry.look(0, 4), 1);
        ferry.rest(42);
        Checks.due("TIRED at 959", ferry.look(0, 4), 1);
        Checks.river(ferry, "person 9 9");
        Checks.due("1 is pulled back to BANK 0", ferry.cross(2, 4), 7);
        Checks.due("TIRED of who pulled, and the hour came", ferry.look(2, 4), 0);
        Checks.due("TIRED of who stood there", ferry.look(0, 4), 0);
    }

    private static void may() {
        RopeFerry ferry = Checks.ferryWith(
                "lame 1;lame 1;lame 1;lame 1;apart 0 1 unless 2;apart 1 0 unless 3;apart 3 2");
        boolean[] due = {true, true, true, false, true, true, true, false, true, true, true, false,
            false, false, false, false};
        for (int set = 0; set < 16; set++) {
            Checks.due("may(" + set + ")", ferry.may(set), due[set]);
            Checks.due("may of " + set + " and of none", ferry.may(set | -16), due[set]);
        }
        RopeFerry one = Checks.ferryWith("lame 1;lame 1;lame 1;apart 2 0 unless 1");
        Checks.due("may(5)", one.may(5), false);
        Checks.due("may(7)", one.may(7), true);
    }
}
