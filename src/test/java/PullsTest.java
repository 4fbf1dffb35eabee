/** Promises 13 (owed) and 14 (clear). */
public final class PullsTest {
    private static final String ALL = "person 9 5 swims;person 9 5 swims;beast 9 5 swims;lame 5;"
            + "goods 5;person 9 5;stream 0 0;boat 0;wide 1";

    public static void main(String[] args) {
        owed();
        owedAgain();
        owedByPersonsAndLame();
        owedOfNone();
        owedOfNobody();
        nobodyPullsASwim();
        balance();
        clear();
        clearOfNothing();
        clearBehind();
        clearBelowNone();
        leastNumbers();
        asMuchAsBothCan();
        modulo100();
        nothingStays();
        Checks.finish();
    }

    private static RopeFerry pulled() {
        RopeFerry ferry = Checks.ferryWith(ALL);
        ferry.swim(0);
        ferry.swim(1);
        ferry.cross(8, 1);
        Checks.river(ferry, "person 9 5");
        ferry.cross(0, 64);
        ferry.cross(32, 1 | 2);
        // BALANCES: 0 has 2, 1 has 1, 3 owes 1, 5 owes 2.
        return ferry;
    }

    /** "each person and lame of the load owes each PULLER a PULL" */
    private static void owed() {
        RopeFerry ferry = Checks.ferryWith(ALL);
        ferry.swim(0);
        ferry.swim(1);
        ferry.swim(2);
        ferry.cross(8 | 16 | 32, 1 | 2 | 4);
        for (int debtor = 0; debtor < 6; debtor++) {
            for (int puller = 0; puller < 6; puller++) {
                boolean pulled = debtor == 3 || debtor == 5;
                Checks.due("owed(" + debtor + ", " + puller + ")", ferry.owed(debtor, puller),
                        pulled && puller < 3 ? 1 : 0);
            }
        }
        // "each PULLER": also one without FORCE.
        Checks.river(ferry, "person 9 5;goods 3");
        ferry.cross(1 | 2 | 4, 64 | 128);
        Checks.due("a person owes", ferry.owed(0, 6), 1);
        Checks.due("a person owes goods that pull", ferry.owed(0, 7), 1);
        Checks.due("a beast owes nothing", ferry.owed(2, 6), 0);
    }

    /** "OWED: PULLS that one owes another": each CROSSING adds one, and both may owe. */
    private static void owedAgain() {
        RopeFerry ferry = Checks.ferryWith("person 9 5 swims;person 9 5;stream 0 0;boat 0;wide 1");
        ferry.swim(0);
        ferry.cross(2, 1);
        Checks.river(ferry, "person 9 5");
        ferry.cross(1, 4);
        ferry.cross(1, 2);
        Checks.due("owed(1, 0)", ferry.owed(1, 0), 1);
        Checks.due("owed(0, 1)", ferry.owed(0, 1), 1);
        ferry.cross(2, 4);
        ferry.cross(2, 1);
        Checks.due("owed(1, 0), twice", ferry.owed(1, 0), 2);
        Checks.due("owed(0, 1) stays", ferry.owed(0, 1), 1);
    }

    /** "each person and lame of the load": neither beasts nor goods, whatever their number. */
    private static void owedByPersonsAndLame() {
        String[] first = {"person 0 5", "beast 0 5", "goods 5", "lame 5"};
        for (int kind = 0; kind < 4; kind++) {
            RopeFerry ferry = Checks.ferryWith(first[kind] + ";person 9 5 swims;" + first[kind]);
            ferry.swim(1);
            ferry.cross(5, 2);
            Checks.due("owed(0, 1) of KIND " + kind, ferry.owed(0, 1), kind % 3 == 0 ? 1 : 0);
            Checks.due("owed(2, 1) of KIND " + kind, ferry.owed(2, 1), kind % 3 == 0 ? 1 : 0);
            Checks.due("owed(1, 0) of KIND " + kind, ferry.owed(1, 0), 0);
        }
    }

    /** "IndexOutOfBoundsException: there is no such BEING." */
    private static void owedOfNone() {
        RopeFerry ferry = pulled();
        int[][] wrong = {{-1, 0}, {0, -1}, {7, 0}, {0, 7}, {10, 1}, {1, 10}, {7, 7},
            {1, Integer.MIN_VALUE}, {Integer.MAX_VALUE, 0}};
        for (int[] pair : wrong) {
            Checks.refused(ferry, "owed(" + pair[0] + ", " + pair[1] + ")",
                    IndexOutOfBoundsException.class, () -> ferry.owed(pair[0], pair[1]));
        }
    }

    /** "PULLS that one owes another": nobody owes oneself, and at first nobody owes. */
    private static void owedOfNobody() {
        RopeFerry ferry = pulled();
        for (int being = 0; being < 7; being++) {
            Checks.due("owed(" + being + ", " + being + ")", ferry.owed(being, being), 0);
        }
        RopeFerry fresh = Checks.ferryWith("lame 5;lame 5");
        Checks.due("owed(0, 1) at first", fresh.owed(0, 1), 0);
    }

    /** "A SWIM" has no PULLERS, and THE FERRY with none no load that owes. */
    private static void nobodyPullsASwim() {
        RopeFerry ferry = Checks.ferryWith(ALL);
        ferry.swim(0);
        ferry.cross(0, 1);
        for (int being = 0; being < 6; being++) {
            Checks.due("BALANCE of " + being, ferry.look(being, 7), 0);
        }
    }

    /** "BALANCE: PULLS owed to one less those that one owes." */
    private static void balance() {
        RopeFerry ferry = pulled();
        int[] due = {2, 1, 0, -1, 0, -2, 0};
        for (int being = 0; being < due.length; being++) {
            Checks.due("BALANCE of " + being, ferry.look(being, 7), due[being]);
        }
        ferry.cross(1, 64);
        Checks.due("BALANCE of who owes one more", ferry.look(0, 7), 1);
        ferry.cross(1, 32);
        Checks.due("BALANCE of 0, who owes 5 one", ferry.look(0, 7), 0);
        Checks.due("BALANCE of 5", ferry.look(5, 7), -1);
    }

    /** "the one of the greatest BALANCE is paid by the one of the least" */
    private static void clear() {
        RopeFerry ferry = pulled();
        Checks.due("clear(NONE)", ferry.clear(-1), 2);
        Checks.due("clear(0)", ferry.clear(0), 50002);
        Checks.due("clear(1)", ferry.clear(1), 30101);
    }

    /** "till all BALANCES are 0": at once, where nobody owes. */
    private static void clearOfNothing() {
        RopeFerry ferry = Checks.ferryWith(ALL);
        Checks.due("clear(NONE) of nothing", ferry.clear(-1), 0);
        Checks.due("clear(0) of nothing", ferry.clear(0), RopeFerry.NONE);
        // 0 and 1 owe each other one.
        RopeFerry even = Checks.ferryWith("person 9 5 swims;person 9 5;person 9 5;stream 0 0;boat 0");
        even.swim(0);
        even.cross(2, 1);
        even.cross(0, 4);
        even.swim(0);
        even.cross(1, 2);
        Checks.due("owed(0, 1)", even.owed(0, 1), 1);
        Checks.due("owed(1, 0)", even.owed(1, 0), 1);
        Checks.due("clear(NONE) of BALANCES of 0", even.clear(-1), 0);
    }

    /** "of the k-th (from 0 on; NONE behind)" */
    private static void clearBehind() {
        RopeFerry ferry = pulled();
        for (int k : new int[] {2, 3, 10, Integer.MAX_VALUE}) {
            Checks.due("clear(" + k + ")", ferry.clear(k), RopeFerry.NONE);
        }
    }

    /** "IllegalArgumentException: k is below NONE." */
    private static void clearBelowNone() {
        RopeFerry ferry = pulled();
        for (int k : new int[] {-2, -3, Integer.MIN_VALUE}) {
            Checks.refused(ferry, "clear(" + k + ")", IllegalArgumentException.class,
                    () -> ferry.clear(k));
        }
        Checks.thrown("clear(-2) of nobody", IllegalArgumentException.class,
                () -> new RopeFerry().clear(-2));
    }

    /** "(of several the least each)" */
    private static void leastNumbers() {
        RopeFerry ferry = Checks.ferryWith(ALL);
        ferry.swim(1);
        ferry.swim(2);
        ferry.cross(1 | 8 | 32, 2 | 4);
        // 1 and 2 have 3 each, 0, 3 and 5 owe 2 each.
        int[] due = {102, 30202, 50101, 50201};
        Checks.due("clear(NONE)", ferry.clear(-1), due.length);
        for (int k = 0; k < due.length; k++) {
            Checks.due("clear(" + k + ")", ferry.clear(k), due[k]);
        }
    }

    /** "as much as both can; again and again, till all BALANCES are 0" */
    private static void asMuchAsBothCan() {
        RopeFerry ferry = Checks.ferryWith("person 9 5 swims;lame 5;lame 5;person 9 5;lame 5;lame 5;"
                + "lame 5;lame 5;lame 5;lame 5;stream 0 0;boat 0;wide 1");
        ferry.swim(0);
        ferry.cross(2 | 4 | 16 | 32 | 64 | 128 | 256 | 512, 1);
        // 0 has 8, eight owe 1 each: eight payments, the least number first.
        Checks.due("clear(NONE)", ferry.clear(-1), 8);
        Checks.due("clear(0)", ferry.clear(0), 10001);
        Checks.due("clear(7)", ferry.clear(7), 90001);
        Checks.due("clear(8)", ferry.clear(8), RopeFerry.NONE);
        ferry.cross(2, 8);
        ferry.cross(2, 1);
        // 0 has 9 now, 3 has 1, 1 owes 3: the least pays as much as it can.
        int[] due = {10003, 20001, 40001, 50001, 60001, 70001, 80001, 90301};
        Checks.due("clear(NONE)", ferry.clear(-1), due.length);
        for (int k = 0; k < due.length; k++) {
            Checks.due("clear(" + k + ")", ferry.clear(k), due[k]);
        }
    }

    /** "and how much modulo 100" */
    private static void modulo100() {
        RopeFerry ferry = Checks.ferryWith("person 9 1 swims;lame 1;person 9 1;stream 0 0;boat 0;wide 1");
        ferry.swim(0);
        for (int n = 1; n <= 105; n++) {
            ferry.cross(2, 1);
            ferry.cross(2, 4);
            ferry.rest(60);
            if (n >= 99 && n <= 101) {
                Checks.due("clear(0) of " + n, ferry.clear(0), 10000 + n % 100);
            }
        }
        Checks.due("owed(1, 0)", ferry.owed(1, 0), 105);
        Checks.due("owed(1, 2)", ferry.owed(1, 2), 105);
        Checks.due("clear(NONE)", ferry.clear(-1), 2);
        Checks.due("clear(0)", ferry.clear(0), 10005);
        Checks.due("clear(1)", ferry.clear(1), 10205);
        Checks.due("BALANCE of 1", ferry.look(1, 7), -210);
    }

    /** "(Nothing stays.)" */
    private static void nothingStays() {
        RopeFerry ferry = pulled();
        java.util.List<Integer> before = Checks.answersOf(ferry);
        ferry.clear(-1);
        ferry.clear(1);
        ferry.clear(9);
        Checks.same("behind clear", Checks.answersOf(ferry), before);
        Checks.due("owed(5, 0)", ferry.owed(5, 0), 1);
    }
}
