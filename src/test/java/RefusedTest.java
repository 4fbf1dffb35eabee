import java.util.NoSuchElementException;

/** What the Terms tell of calls that throw, of all promises at once. */
public final class RefusedTest {
    public static void main(String[] args) {
        nothingChanges();
        tapeStays();
        imageStays();
        firstToldFirst();
        noSuchBeing();
        Checks.finish();
    }

    private static RopeFerry river() {
        RopeFerry ferry = Checks.ferryWith("person 9 5 swims;person 9 5;goods 5;stream 0 1;with 1 2");
        ferry.swim(0);
        Checks.rule(ferry, "4 if weight>30");
        return ferry;
    }

    /** Calls that throw and do not use the TAPE up. */
    private static void throwAll(RopeFerry ferry) {
        Checks.thrown("look(3, 0)", IndexOutOfBoundsException.class, () -> ferry.look(3, 0));
        Checks.thrown("look(0, 8)", NoSuchElementException.class, () -> ferry.look(0, 8));
        Checks.thrown("cross(2, 1)", IllegalStateException.class, () -> ferry.cross(2, 1));
        Checks.thrown("cross(0, 0)", IllegalStateException.class, () -> ferry.cross(0, 0));
        Checks.thrown("swim(3)", IndexOutOfBoundsException.class, () -> ferry.swim(3));
        Checks.thrown("swim(1)", IllegalStateException.class, () -> ferry.swim(1));
        Checks.thrown("rest(601)", IllegalArgumentException.class, () -> ferry.rest(601));
        Checks.thrown("owed(0, 3)", IndexOutOfBoundsException.class, () -> ferry.owed(0, 3));
        Checks.thrown("clear(-2)", IllegalArgumentException.class, () -> ferry.clear(-2));
        Checks.thrown("plan(1, false, 2)", NoSuchElementException.class, () -> ferry.plan(1, false, 2));
        Checks.thrown("fair(1, 601, 5, 5, 0)", IllegalArgumentException.class,
                () -> ferry.fair(1, 601, 5, 5, 0));
        Checks.thrown("fair(1, 60, 5, 5, 6)", NoSuchElementException.class,
                () -> ferry.fair(1, 60, 5, 5, 6));
    }

    /** "a call that throws changes nothing but the TAPE, where it is used up, and fault()" */
    private static void nothingChanges() {
        RopeFerry ferry = river();
        java.util.List<Integer> before = Checks.answersOf(ferry);
        throwAll(ferry);
        Checks.same("behind calls that throw", Checks.answersOf(ferry), before);
        Checks.wrongRiver(ferry, "boat 1;lame 5;person 10 5", 21);
        Checks.wrongRule(ferry, "9;x", 2);
        Checks.tell(ferry, "0");
        Checks.thrown("lost(0)", IllegalArgumentException.class, () -> ferry.lost(0));
        Checks.same("behind wrong texts", Checks.answersOf(ferry), before);
    }

    /** "nothing but the TAPE, where it is used up": elsewhere it stays, and fault(), too. */
    private static void tapeStays() {
        RopeFerry ferry = river();
        Checks.wrongRiver(ferry, "boat x", 5);
        Checks.tell(ferry, "boat 44");
        throwAll(ferry);
        Checks.due("fault()", ferry.fault(), 5);
        Checks.due("end(8)", ferry.end(8), false);
        Checks.due("end(7)", ferry.end(7), true);
        ferry.river();
        Checks.due("BOAT", ferry.count(7), 44);
    }

    /** "a call that throws changes nothing": nor THE IMAGE. */
    private static void imageStays() {
        RopeFerry none = river();
        throwAll(none);
        Checks.due("back() where none was kept", none.back(), false);
        RopeFerry ferry = river();
        ferry.image();
        java.util.List<Integer> before = Checks.answersOf(ferry);
        ferry.rest(600);
        throwAll(ferry);
        Checks.wrongRiver(ferry, "boat 5;x", 7);
        Checks.due("back()", ferry.back(), true);
        Checks.same("behind back()", Checks.answersOf(ferry), before);
    }

    /** "Of several exceptions the one told first is thrown" */
    private static void firstToldFirst() {
        RopeFerry ferry = river();
        Checks.thrown("look(3, 8)", IndexOutOfBoundsException.class, () -> ferry.look(3, 8));
        Checks.thrown("fair(1, 601, 5, 5, 6)", IllegalArgumentException.class,
                () -> ferry.fair(1, 601, 5, 5, 6));
        Checks.thrown("fair(1, 60, 101, 5, -1)", IllegalArgumentException.class,
                () -> ferry.fair(1, 60, 101, 5, -1));
        Checks.thrown("fair(1, 60, 5, 0, 6)", IllegalArgumentException.class,
                () -> ferry.fair(1, 60, 5, 0, 6));
        for (int n = 1; n < 10; n++) {
            ferry.river();
        }
        Checks.tell(ferry, "x");
        Checks.thrown("a wrong 11th text", IllegalArgumentException.class, ferry::river);
    }

    /** "IndexOutOfBoundsException: there is no such BEING." */
    private static void noSuchBeing() {
        RopeFerry ferry = new RopeFerry();
        Checks.thrown("look(0, 0) of nobody", IndexOutOfBoundsException.class, () -> ferry.look(0, 0));
        Checks.thrown("swim(0) of nobody", IndexOutOfBoundsException.class, () -> ferry.swim(0));
        Checks.thrown("owed(0, 0) of nobody", IndexOutOfBoundsException.class, () -> ferry.owed(0, 0));
    }
}
