/** Promises 13 (owed) and 14 (clear). */
public final class PullsTest {
    private static final String ALL = "person 9 5 swims;person 9 5 swims;beast 9 5 swims;lame 5;"
            + "goods 5;person 9 5;stream 0 0;boat 0;wide 1";

    public static void main(String[] args) {
        owed();
        owedByPersonsAndLame();
        owedOfNone();
        clear();
        leastNumbers();
        manyPulls();
        Checks.finish();
    }

    private static void owed() {
        RopeFerry ferry = Checks.ferryWith(ALL);
        ferry.swim(0);
        ferry.swim(1);
        ferry.swim(2);
        ferry.cross(8 | 16 | 32, 1 | 2 | 4);
        for (int debtor = 0; debtor < 6; debtor++) {
            for (int puller = 0; puller < 6; puller++) {
                boolean pulled = debtor == 3 || debtor == 5;
                Checks.due("owed(" + debtor + ", " + puller + ")", ferry.owed(debtor, puller),
                        pulled && puller < 3 ? 1 : 0);
            }
        }
        Checks.river(ferry, "person 9 5");
        ferry.cross(1 | 2 | 4, 64);
        Checks.due("a person owes", ferry.owed(0, 6), 1);
        Checks.due("a beast owes nothing", ferry.owed(2, 6), 0);
        ferry.cross(1, 32);
        Checks.due("owed(0, 5)", ferry.owed(0, 5), 1);
        Checks.due("owed(5, 0)", ferry.owed(5, 0), 1);
        Checks.due("BALANCE of 0", ferry.look(0, 7), 0);
        Checks.due("BALANCE of 5", ferry.look(5, 7), -2);
        Checks.due("BALANCE of 2", ferry.look(2, 7), 2);
    }

    /** Neither beasts nor goods owe, whatever their number. */
    private static void owedByPersonsAndLame() {
        String[] first = {"person 0 5", "beast 0 5", "goods 5", "lame 5"};
        for (int kind = 0; kind < 4; kind++) {
            RopeFerry ferry = Checks.ferryWith(first[kind] + ";person 9 5 swims;" + first[kind]);
            ferry.swim(1);
            ferry.cross(5, 2);
            Checks.due("owed(0, 1) of KIND " + kind, ferry.owed(0, 1), kind % 3 == 0 ? 1 : 0);
            Checks.due("owed(2, 1) of KIND " + kind, ferry.owed(2, 1), kind % 3 == 0 ? 1 : 0);
            Checks.due("owed(1, 0) of KIND " + kind, ferry.owed(1, 0), 0);
        }
    }

    private static void owedOfNone() {
        RopeFerry ferry = Checks.ferryWith("lame 5;lame 5");
        Checks.due("owed(0, 0)", ferry.owed(0, 0), 0);
        int[][] wrong = {{-1, 0}, {0, -1}, {2, 0}, {0, 2}, {10, 1}, {1, Integer.MIN_VALUE}};
        for (int[] pair : wrong) {
            Checks.thrown("owed(" + pair[0] + ", " + pair[1] + ")", IndexOutOfBoundsException.class,
                    () -> ferry.owed(pair[0], pair[1]));
        }
    }

    private static void clear() {
        RopeFerry ferry = Checks.ferryWith(ALL);
        Checks.due("clear(NONE) of nothing", ferry.clear(-1), 0);
        Checks.due("clear(0) of nothing", ferry.clear(0), RopeFerry.NONE);
        ferry.swim(0);
        ferry.swim(1);
        ferry.cross(8, 1);
        Checks.river(ferry, "person 9 5");
        ferry.cross(0, 64);
        ferry.cross(32, 1 | 2);
        // BALANCES: 0 has 2, 1 has 1, 3 owes 1, 5 owes 2.
        Checks.due("clear(NONE)", ferry.clear(-1), 2);
        Checks.due("clear(0)", ferry.clear(0), 50002);
        Checks.due("clear(1)", ferry.clear(1), 30101);
        Checks.due("clear(2)", ferry.clear(2), RopeFerry.NONE);
        Checks.due("clear(MAX)", ferry.clear(Integer.MAX_VALUE), RopeFerry.NONE);
        Checks.due("nothing stays", ferry.owed(5, 0), 1);
        Checks.thrown("clear(-2)", IllegalArgumentException.class, () -> ferry.clear(-2));
        Checks.thrown("clear(MIN)", IllegalArgumentException.class,
                () -> ferry.clear(Integer.MIN_VALUE));
    }

    /** Of several the least number each, and as much as both can. */
    private static void leastNumbers() {
        RopeFerry ferry = Checks.ferryWith(ALL);
        ferry.swim(1);
        ferry.swim(2);
        ferry.cross(1 | 8 | 32, 2 | 4);
        // 1 and 2 have 3 each, 0, 3 and 5 owe 2 each.
        int[] due = {102, 30202, 50101, 50201};
        Checks.due("clear(NONE)", ferry.clear(-1), due.length);
        for (int k = 0; k < due.length; k++) {
            Checks.due("clear(" + k + ")", ferry.clear(k), due[k]);
        }
    }

    /** More than 99 pulls are told modulo 100. */
    private static void manyPulls() {
        RopeFerry ferry = Checks.ferryWith("person 9 1 swims;lame 1;person 9 1;stream 0 0;boat 0;wide 1");
        ferry.swim(0);
        for (int n = 0; n < 105; n++) {
            ferry.cross(2, 1);
            ferry.cross(2, 4);
            ferry.rest(60);
        }
        Checks.due("owed(1, 0)", ferry.owed(1, 0), 105);
        Checks.due("owed(1, 2)", ferry.owed(1, 2), 105);
        Checks.due("clear(NONE)", ferry.clear(-1), 2);
        Checks.due("clear(0)", ferry.clear(0), 10005);
        Checks.due("clear(1)", ferry.clear(1), 10205);
        Checks.due("BALANCE of 1", ferry.look(1, 7), -210);
    }
}
