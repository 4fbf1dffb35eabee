/** Promises 1 (a new object), 2 (feed), 3 (end). */
public final class TapeTest {
    public static void main(String[] args) {
        newObject();
        atFirst();
        twentyBytes();
        highestFirst();
        feedUpTo400();
        feedTooMuch();
        endKeepsTheFirst();
        endRefuses();
        Checks.finish();
    }

    /** "Nobody; nothing told." */
    private static void newObject() {
        RopeFerry ferry = new RopeFerry();
        Checks.due("BEINGS", ferry.count(0), 0);
        Checks.due("texts of THE RIVER", ferry.count(1), 0);
        Checks.due("BEINGS at BANK 1", ferry.count(4), 0);
        Checks.due("LINES of RULE", ferry.count(9), RopeFerry.NONE);
        Checks.due("CROSSINGS", ferry.count(10), 0);
        Checks.due("SWIMS", ferry.count(11), 0);
        Checks.due("fault()", ferry.fault(), RopeFerry.NONE);
        Checks.due("back()", ferry.back(), false);
        Checks.due("the TAPE is empty: end(1)", ferry.end(1), false);
        Checks.due("left() of nobody", ferry.left(), 0);
        Checks.due("clear(NONE) of nobody", ferry.clear(RopeFerry.NONE), 0);
        Checks.thrown("look(0, 0)", IndexOutOfBoundsException.class, () -> ferry.look(0, 0));
    }

    /** "THE FERRY is at a BANK (0 at first)." "(200 at first)" "(20)" "(10)" "(2 each at first)" */
    private static void atFirst() {
        RopeFerry ferry = new RopeFerry();
        Checks.due("CLOCK", ferry.count(2), 0);
        Checks.due("BANK of the FERRY", ferry.count(3), 0);
        Checks.due("ROPE", ferry.count(6), 200);
        Checks.due("BOAT", ferry.count(7), 20);
        Checks.due("WIDE", ferry.count(8), 10);
        Checks.due("need(0)", ferry.need(0), 3);
        for (int hour = 0; hour < 24; hour++) {
            Checks.due("STREAM of hour " + hour, ferry.count(5), 2);
            ferry.rest(60);
        }
    }

    /** "Twenty bytes come behind the TAPE, of each number the highest first: how many it has" */
    private static void twentyBytes() {
        RopeFerry ferry = new RopeFerry();
        Checks.due("feed into an empty TAPE", ferry.feed(1, 2, 3, 4, 5), 20);
        Checks.due("feed behind 20", ferry.feed(1, 2, 3, 4, 5), 40);
        ferry.end(7);
        Checks.due("feed behind 7", ferry.feed(1, 2, 3, 4, 5), 27);
        ferry.end(0);
        Checks.due("feed behind none", ferry.feed(1, 2, 3, 4, 5), 20);
    }

    /** "of each number the highest first" */
    private static void highestFirst() {
        RopeFerry ferry = new RopeFerry();
        ferry.feed(0x20207769, 0x64652020, 0x20202034, 0x37202020, 0x20202020);
        Checks.due("river() of '  wide     47'", ferry.river(), 1);
        Checks.due("WIDE", ferry.count(8), 47);
        // Numbers below 0: their highest byte is 128 at the least.
        ferry.feed(0x626f6174, 0x20352084, 0, 0, 0);
        Checks.thrown("a byte of 132", IllegalArgumentException.class, ferry::river);
        Checks.due("its place", ferry.fault(), 7);
        ferry.feed(0x8020626f, 0, 0, 0, 0);
        Checks.thrown("a byte of 128 ahead", IllegalArgumentException.class, ferry::river);
        Checks.due("its place", ferry.fault(), 0);
        ferry.feed(0x20202020, 0x202020ff, -1, -1, -1);
        Checks.thrown("bytes of 255", IllegalArgumentException.class, ferry::river);
        Checks.due("the first of them", ferry.fault(), 7);
    }

    /** "Twenty bytes come behind the TAPE .. NONE .. if it would have more than 400." */
    private static void feedUpTo400() {
        RopeFerry ferry = new RopeFerry();
        for (int n = 1; n <= 20; n++) {
            Checks.due("feed " + n, ferry.feed(1, 2, 3, 4, 5), 20 * n);
        }
        Checks.due("end(400)", ferry.end(400), true);
        Checks.due("end(380)", ferry.end(380), true);
        Checks.due("feed of just 400", ferry.feed(1, 2, 3, 4, 5), 400);
    }

    /** "NONE, and none come, if it would have more than 400." */
    private static void feedTooMuch() {
        RopeFerry ferry = new RopeFerry();
        Checks.tell(ferry, "boat 7" + " ".repeat(394));
        Checks.due("feed of 420", ferry.feed(-1, -1, -1, -1, -1), RopeFerry.NONE);
        Checks.due("end(400) behind it", ferry.end(400), true);
        Checks.due("end(381)", ferry.end(381), true);
        Checks.due("feed of 401", ferry.feed(-1, -1, -1, -1, -1), RopeFerry.NONE);
        Checks.due("end(382) behind it", ferry.end(382), false);
        Checks.due("none came", ferry.river(), 1);
        Checks.due("BOAT", ferry.count(7), 7);
    }

    /** "The TAPE has its first n bytes alone: true" */
    private static void endKeepsTheFirst() {
        RopeFerry ferry = new RopeFerry();
        ferry.feed(0x626f6174, 0x20373738, 0, 0, 0);
        Checks.due("end(20), all of it", ferry.end(20), true);
        Checks.due("end(7)", ferry.end(7), true);
        Checks.due("river()", ferry.river(), 1);
        Checks.due("BOAT by the first 7 bytes", ferry.count(7), 77);
        ferry.feed(0x626f6174, 0x20373738, 0, 0, 0);
        Checks.due("end(6)", ferry.end(6), true);
        ferry.river();
        Checks.due("BOAT by the first 6 bytes", ferry.count(7), 7);
        ferry.feed(1, 2, 3, 4, 5);
        Checks.due("end(0)", ferry.end(0), true);
        Checks.due("end(0) of an empty TAPE", ferry.end(0), true);
        Checks.due("river() of an empty TAPE", ferry.river(), 3);
    }

    /** "false, and nothing happens, if it has fewer, or n is below 0." */
    private static void endRefuses() {
        RopeFerry ferry = new RopeFerry();
        Checks.due("end(1) of an empty TAPE", ferry.end(1), false);
        Checks.due("end(-1) of an empty TAPE", ferry.end(-1), false);
        Checks.tell(ferry, "boat 77");
        for (int n : new int[] {8, 20, 400, 401, Integer.MAX_VALUE, -1, -8, Integer.MIN_VALUE}) {
            Checks.due("end(" + n + ")", ferry.end(n), false);
        }
        Checks.due("feed behind them", ferry.feed(0x20202020, 0, 0, 0, 0), 27);
        ferry.end(11);
        ferry.river();
        Checks.due("BOAT", ferry.count(7), 77);
    }
}
