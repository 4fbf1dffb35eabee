/** Promises 7 (look), 12 (may), 22 (count). */
public final class BeingsTest {
    public static void main(String[] args) {
        look();
        lookOfAnother();
        noSuchBeing();
        beingAheadOfWhat();
        force();
        may();
        mayOfNobody();
        mayOfNone();
        unless();
        count();
        countOfAnother();
        Checks.finish();
    }

    /** "what 0 KIND, 1 STRENGTH, 2 WEIGHT, 3 1 if it SWIMS, 4 TIRED, 5 FORCE, 6 BANK, 7 BALANCE" */
    private static void look() {
        RopeFerry ferry = Checks.ferryWith("person 7 60 swims;lame 5");
        ferry.swim(0);
        int[] due = {0, 7, 60, 1, 2, 5, 1, 0};
        for (int what = 0; what < 8; what++) {
            Checks.due("look(0, " + what + ")", ferry.look(0, what), due[what]);
        }
        ferry.cross(2, 1);
        Checks.due("BALANCE of who pulled", ferry.look(0, 7), 1);
        Checks.due("BALANCE of who was pulled", ferry.look(1, 7), -1);
        RopeFerry with = Checks.ferryWith("person 7 60 swims;lame 5;with 0 1");
        Checks.due("of one that must go WITH another the word swims", with.look(0, 3), 1);
    }

    /** "NoSuchElementException: another what." */
    private static void lookOfAnother() {
        RopeFerry ferry = Checks.ferryWith("person 7 60 swims;lame 5");
        for (int what : new int[] {8, -1, 9, Integer.MAX_VALUE, Integer.MIN_VALUE}) {
            Checks.refused(ferry, "look(1, " + what + ")", java.util.NoSuchElementException.class,
                    () -> ferry.look(1, what));
        }
    }

    /** "IndexOutOfBoundsException: there is no such BEING." */
    private static void noSuchBeing() {
        RopeFerry ferry = Checks.ferryWith("person 7 60 swims;lame 5");
        for (int being : new int[] {2, -1, 9, 10, 31, 32, Integer.MIN_VALUE, Integer.MAX_VALUE}) {
            Checks.refused(ferry, "look(" + being + ", 0)", IndexOutOfBoundsException.class,
                    () -> ferry.look(being, 0));
        }
        Checks.river(ferry, Checks.times("lame 1", 8));
        Checks.due("KIND of the 10th", ferry.look(9, 0), 3);
        Checks.thrown("look(10, 0)", IndexOutOfBoundsException.class, () -> ferry.look(10, 0));
    }

    /** "Of several exceptions the one told first is thrown" */
    private static void beingAheadOfWhat() {
        RopeFerry ferry = Checks.ferryWith("person 7 60 swims;lame 5");
        Checks.thrown("look(2, 8)", IndexOutOfBoundsException.class, () -> ferry.look(2, 8));
        Checks.thrown("look(-1, -1)", IndexOutOfBoundsException.class, () -> ferry.look(-1, -1));
    }

    /** "FORCE: STRENGTH less TIRED, 0 at least." */
    private static void force() {
        for (int strength = 0; strength < 5; strength++) {
            RopeFerry ferry = Checks.ferryWith("person " + strength + " 5 swims;stream 0 0");
            Checks.due("FORCE of " + strength, ferry.look(0, 5), strength);
            ferry.swim(0);
            Checks.due("TIRED", ferry.look(0, 4), 2);
            Checks.due("FORCE of " + strength + " less 2", ferry.look(0, 5),
                    strength > 2 ? strength - 2 : 0);
        }
    }

    /** "Whether a set may be on a BANK alone, as told of those who are APART." */
    private static void may() {
        RopeFerry ferry = Checks.ferryWith(
                "lame 1;lame 1;lame 1;lame 1;apart 0 1 unless 2;apart 1 0 unless 3;apart 3 2");
        boolean[] due = {true, true, true, false, true, true, true, false, true, true, true, false,
            false, false, false, false};
        for (int set = 0; set < 16; set++) {
            Checks.due("may(" + set + ")", ferry.may(set), due[set]);
        }
        Checks.river(ferry, "with 0 1");
        Checks.due("with tells nothing of it: may(1)", ferry.may(1), true);
    }

    /** "Whether a set may be on a BANK alone": also a set of nobody. */
    private static void mayOfNobody() {
        Checks.due("may(0), where nobody is", new RopeFerry().may(0), true);
        Checks.due("may(0)", Checks.ferryWith("lame 1;lame 1;apart 0 1").may(0), true);
    }

    /** "Sets are bits; of none they count for nothing" */
    private static void mayOfNone() {
        Checks.due("may(-1), where nobody is", new RopeFerry().may(-1), true);
        RopeFerry ferry = Checks.ferryWith("lame 1;lame 1;lame 1;apart 0 1 unless 2");
        for (int set = 0; set < 8; set++) {
            Checks.due("may of " + set + " and of none", ferry.may(set | -8), ferry.may(set));
            Checks.due("may of " + set + " and the highest", ferry.may(set | Integer.MIN_VALUE),
                    set != 3);
        }
    }

    /** "may A and B be both (in any order), where D is not (never, without a D)" */
    private static void unless() {
        for (String pair : new String[] {"apart 2 0", "apart 0 2"}) {
            RopeFerry one = Checks.ferryWith("lame 1;lame 1;lame 1;" + pair + " unless 1");
            Checks.due(pair + " unless 1: may(5)", one.may(5), false);
            Checks.due(pair + " unless 1: may(7)", one.may(7), true);
            RopeFerry never = Checks.ferryWith("lame 1;lame 1;lame 1;" + pair);
            Checks.due(pair + ": may(5)", never.may(5), false);
            Checks.due(pair + ": may(7)", never.may(7), false);
            Checks.river(one, pair);
            Checks.due("never, by another LINE: may(7)", one.may(7), false);
        }
    }

    /** "0 BEINGS, 1 texts of THE RIVER, 2 CLOCK, 3 BANK of THE FERRY, 4 BEINGS at BANK 1 (bits)" */
    private static void count() {
        RopeFerry ferry = Checks.ferryWith("person 9 5 swims;person 8 6;lame 7;goods 5;stream 0 1",
                "rope 77;wide 9;boat 3");
        Checks.rule(ferry, "1;2");
        ferry.swim(0);
        ferry.cross(4, 1);
        ferry.cross(0, 2);
        int[] due = {4, 2, 16, 0, 5, 1, 77, 3, 9, 2, 2, 1};
        for (int what = 0; what < due.length; what++) {
            Checks.due("count(" + what + ")", ferry.count(what), due[what]);
        }
        ferry.cross(2, 1);
        Checks.due("BANK of the FERRY", ferry.count(3), 1);
    }

    /** "NONE for another what." */
    private static void countOfAnother() {
        RopeFerry ferry = Checks.ferryWith("person 9 5");
        for (int what : new int[] {-1, 12, 13, Integer.MAX_VALUE, Integer.MIN_VALUE}) {
            Checks.due("count(" + what + ")", ferry.count(what), RopeFerry.NONE);
        }
    }
}
