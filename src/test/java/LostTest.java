/** Promise 18 (lost). */
public final class LostTest {
    public static void main(String[] args) {
        noRows();
        oneOrder();
        alikeOnes();
        notFromHere();
        byNow();
        nothingChanges();
        Checks.finish();
    }

    private static RopeFerry river() {
        RopeFerry ferry = Checks.ferryWith("person 9 1 swims;person 9 1;lame 1;goods 1;stream 0 0;boat 0");
        ferry.swim(0);
        return ferry;
    }

    private static void noRow(String row, int k) {
        RopeFerry ferry = river();
        Checks.tell(ferry, row);
        Checks.thrown("lost(" + k + ") of '" + row + "'", IllegalArgumentException.class,
                () -> ferry.lost(k));
        Checks.due("the tape is used up: end(1)", ferry.end(1), false);
        Checks.due("no text was read", ferry.fault(), RopeFerry.NONE);
    }

    private static void noRows() {
        noRow("", -1);
        noRow("0", -1);
        noRow("000", -1);
        noRow("/0", -1);
        noRow("0/", -1);
        noRow("P0", -1);
        noRow("0P", -1);
        noRow("00 0", 0);
        noRow("00000000000000", -1);
        noRow("00", -2);
        noRow("00", Integer.MIN_VALUE);
        RopeFerry ferry = river();
        Checks.tell(ferry, "x");
        Checks.thrown("a wrong text", IllegalArgumentException.class, ferry::river);
        Checks.tell(ferry, "x");
        Checks.thrown("a wrong row", IllegalArgumentException.class, () -> ferry.lost(0));
        Checks.due("fault is of the latest text", ferry.fault(), 0);
        Checks.due("OO is a row", Checks.lost(ferry, -1, 1023), 0);
    }

    private static void order(int[] loads, int many, int... due) {
        RopeFerry ferry = river();
        String call = "lost of " + java.util.Arrays.toString(loads) + ", ";
        Checks.due(call + "-1", Checks.lost(ferry, -1, loads), many);
        for (int k = 0; k < due.length; k++) {
            Checks.due(call + k, Checks.lost(ferry, k, loads), due[k]);
        }
        for (int k : new int[] {due.length, due.length + 1, Integer.MAX_VALUE}) {
            Checks.due(call + k, Checks.lost(ferry, k, loads), RopeFerry.NONE);
        }
    }

    private static void oneOrder() {
        order(new int[] {2}, 1, 0);
        order(new int[] {1}, 0);
        order(new int[] {0}, 1, 0);
        // 1 goes over, pulled by 0; it cannot come back: nobody pulls.
        order(new int[] {2, 0}, 0);
        // Back comes what 1 pulls, if 1 still is at BANK 0.
        order(new int[] {0, 4}, 1, 1, 0);
        order(new int[] {8, 0, 4}, 2, 0, 1, 2);
        order(new int[] {0, 6, 8}, 1, 2, 0, 1);
    }

    /** Alike ones are told apart, and the first is by their numbers. */
    private static void alikeOnes() {
        order(new int[] {0, 0}, 2, 0, 1);
        order(new int[] {0, 0, 0, 0, 0, 0}, 720, 0, 1, 2, 3, 4, 5);
        order(new int[] {4, 4, 4}, 6, 0, 1, 2);
        order(new int[] {4, 0, 0, 4}, 12, 0, 1, 2, 3);
        order(new int[] {1, 4, 8, 1, 0}, 0);
        order(new int[] {1, 4}, 1, 1, 0);
        order(new int[] {2, 1, 4}, 0);
    }

    private static void notFromHere() {
        RopeFerry ferry = Checks.ferryWith("person 9 1;person 9 1");
        Checks.due("nobody pulls", Checks.lost(ferry, -1, 1), 0);
        Checks.due("nobody pulls", Checks.lost(ferry, 0, 0), RopeFerry.NONE);
        RopeFerry by = river();
        Checks.due("who is not there", Checks.lost(by, -1, 16), 0);
        Checks.due("the highest who is not there", Checks.lost(by, -1, 512), 0);
        by.cross(4, 1);
        Checks.due("from now on: to BANK 0", Checks.lost(by, -1, 4, 8), 1);
        Checks.due("4 first", Checks.lost(by, 0, 8, 4), 1);
    }

    /** By STREAM of now and TIRED as now: what was asked before tells nothing. */
    private static void byNow() {
        RopeFerry ferry = Checks.ferryWith("person 4 1 swims;lame 1;stream 0 0;stream 1 9;boat 0;wide 40");
        Checks.due("nobody pulls", Checks.lost(ferry, -1, 2), 0);
        ferry.swim(0);
        Checks.due("0 pulls", Checks.lost(ferry, -1, 2), 1);
        ferry.rest(20);
        Checks.due("STREAM is too strong", Checks.lost(ferry, -1, 2), 0);
    }

    private static void nothingChanges() {
        RopeFerry ferry = river();
        java.util.List<Integer> before = Checks.answersOf(ferry);
        Checks.lost(ferry, -1, 8, 0, 4);
        Checks.lost(ferry, 1, 8, 0, 4);
        Checks.same("behind lost", Checks.answersOf(ferry), before);
        Checks.due("the tape is used up: end(1)", ferry.end(1), false);
    }
}
