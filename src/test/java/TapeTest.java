/** Promises 1 (a new object), 2 (feed), 3 (end). */
public final class TapeTest {
    public static void main(String[] args) {
        newObject();
        feed();
        end();
        bytes();
        Checks.finish();
    }

    private static void newObject() {
        RopeFerry ferry = new RopeFerry();
        int[] due = {0, 0, 0, 0, 0, 2, 200, 20, 10, RopeFerry.NONE, 0, 0};
        for (int what = 0; what < due.length; what++) {
            Checks.due("count(" + what + ") of a new object", ferry.count(what), due[what]);
        }
        Checks.due("fault()", ferry.fault(), RopeFerry.NONE);
        Checks.due("back()", ferry.back(), false);
        Checks.due("end(1)", ferry.end(1), false);
        Checks.due("end(0)", ferry.end(0), true);
        Checks.due("need(0)", ferry.need(0), 3);
        for (int hour = 0; hour < 24; hour++) {
            Checks.due("STREAM of hour " + hour, ferry.count(5), 2);
            ferry.rest(60);
        }
        Checks.thrown("look(0, 0)", IndexOutOfBoundsException.class, () -> ferry.look(0, 0));
    }

    private static void feed() {
        RopeFerry ferry = new RopeFerry();
        for (int n = 1; n <= 20; n++) {
            Checks.due("feed " + n, ferry.feed(1, 2, 3, 4, 5), 20 * n);
        }
        Checks.due("a feed too many", ferry.feed(1, 2, 3, 4, 5), RopeFerry.NONE);
        Checks.due("end(400) behind it", ferry.end(400), true);
        Checks.due("end(381)", ferry.end(381), true);
        Checks.due("feed of 401", ferry.feed(1, 2, 3, 4, 5), RopeFerry.NONE);
        Checks.due("end(382) behind it", ferry.end(382), false);
        Checks.due("end(380)", ferry.end(380), true);
        Checks.due("feed of 400", ferry.feed(1, 2, 3, 4, 5), 400);
    }

    private static void end() {
        RopeFerry ferry = new RopeFerry();
        ferry.feed(0, 0, 0, 0, 0);
        Checks.due("end(-1)", ferry.end(-1), false);
        Checks.due("end(MIN)", ferry.end(Integer.MIN_VALUE), false);
        Checks.due("end(21)", ferry.end(21), false);
        Checks.due("end(20)", ferry.end(20), true);
        Checks.due("end(7)", ferry.end(7), true);
        Checks.due("end(8)", ferry.end(8), false);
        Checks.due("feed behind 7", ferry.feed(0, 0, 0, 0, 0), 27);
        Checks.due("end(0)", ferry.end(0), true);
        Checks.due("end(1)", ferry.end(1), false);
    }

    /** The highest byte of each number comes first, also where the number is below 0. */
    private static void bytes() {
        RopeFerry ferry = new RopeFerry();
        ferry.feed(0x77696465, 0x20343700, 0, 0, 0);
        ferry.end(7);
        Checks.due("river() of 'wide 47'", ferry.river(), 1);
        Checks.due("WIDE", ferry.count(8), 47);
        ferry.feed(0x626f6174, 0x20352084, 0, 0, 0);
        ferry.end(8);
        Checks.thrown("a byte of 132", IllegalArgumentException.class, ferry::river);
        Checks.due("its place", ferry.fault(), 7);
        ferry.feed(0x8020626f, 0, 0, 0, 0);
        ferry.end(4);
        Checks.thrown("a byte of 128 ahead", IllegalArgumentException.class, ferry::river);
        Checks.due("its place", ferry.fault(), 0);
        Checks.due("the tape is used up", ferry.end(1), false);
    }
}
