/** Promise 17 (left). */
public final class LeftTest {
    public static void main(String[] args) {
        nobody();
        alsoNoMoves();
        ofSeveralTheLeast();
        fewestAheadOfLeast();
        oneBehindAnother();
        notTogether();
        byNow();
        ofTen();
        nothingChanges();
        Checks.finish();
    }

    /** "the fewest BEINGS that are at BANK 0": 0 of nobody, and where all are over. */
    private static void nobody() {
        Checks.due("left() of nobody", new RopeFerry().left(), 0);
        RopeFerry far = Checks.ferryWith("person 2 5 swims;stream 0 0");
        far.swim(0);
        Checks.due("all are over", far.left(), 0);
    }

    /** "after any MOVES, one behind another (also none)" */
    private static void alsoNoMoves() {
        RopeFerry some = Checks.ferryWith("person 9 5 swims;goods 99;rope 99");
        Checks.due("a PLAN before", some.plan(1, false, 1), 1);
        Checks.due("behind a PLAN", some.left(), 2);
        Checks.due("nobody can move", Checks.ferryWith("person 3 60;person 3 60;lame 10").left(), 7);
        RopeFerry ten = Checks.ferryWith(Checks.times("goods 1", 10));
        Checks.due("ten that cannot move", ten.left(), 1023);
        RopeFerry one = Checks.ferryWith("person 9 5 swims;person 9 5 swims;stream 0 0;apart 0 1");
        one.swim(1);
        Checks.due("as it is now", one.left(), 1);
    }

    /** "of several the least as bits" */
    private static void ofSeveralTheLeast() {
        RopeFerry one = Checks.ferryWith("person 9 5 swims;person 9 5 swims;stream 0 0;apart 0 1");
        Checks.due("either may be left", one.left(), 1);
        one.swim(0);
        Checks.due("the other is left, as it is now", one.left(), 2);
        // Whichever of the two can be left sooner.
        for (String lames : new String[] {"lame 5;lame 60", "lame 60;lame 5"}) {
            RopeFerry two = Checks.ferryWith(lames + ";person 9 5 swims;stream 0 0;boat 0;wide 60");
            two.swim(2);
            Checks.river(two, "apart 0 1");
            Checks.due("0 or 1 of '" + lames + "'", two.left(), 1);
        }
    }

    /** "the fewest BEINGS .. of several the least as bits" */
    private static void fewestAheadOfLeast() {
        RopeFerry ferry = Checks.ferryWith("person 9 5;person 9 5;person 0 5 swims;person 9 5 swims;"
                + "stream 0 0;boat 0");
        ferry.swim(3);
        Checks.river(ferry, "apart 0 2;apart 1 2;with 3 0");
        // 2 swims away from 0 and 1 (bits 3), or they go over together (2 is left, bits 4).
        Checks.due("one, though the two are less as bits", ferry.left(), 4);
    }

    /** "after any MOVES, one behind another" */
    private static void oneBehindAnother() {
        RopeFerry ferry = Checks.ferryWith("person 4 60;lame 10;person 4 10 swims;person 4 10 swims");
        Checks.due("the swimmers pull all", ferry.left(), 0);
        RopeFerry with = Checks.ferryWith("goods 5;person 9 5 swims;lame 99;rope 60;stream 0 0;boat 0");
        Checks.due("what ROPE does not bear", with.left(), 4);
    }

    /** "that are at BANK 0 after any MOVES": after the same ones, not each after others. */
    private static void notTogether() {
        RopeFerry ferry = Checks.ferryWith("person 9 5 swims;lame 5;lame 5;stream 0 0");
        ferry.swim(0);
        Checks.river(ferry, "apart 1 2");
        Checks.due("1 or 2 can go, never both", ferry.left(), 2);
    }

    /** "By STREAM of now and all TIRED as now" */
    private static void byNow() {
        RopeFerry ferry = Checks.ferryWith("person 5 5 swims;lame 5;stream 0 1;stream 1 9;stream 2 1");
        Checks.due("STREAM of hour 0", ferry.left(), 0);
        ferry.rest(60);
        Checks.due("STREAM of hour 1", ferry.left(), 3);
        ferry.rest(60);
        Checks.due("STREAM of hour 2", ferry.left(), 0);
        ferry.swim(0);
        ferry.swim(0);
        Checks.due("FORCE", ferry.look(0, 5), 1);
        Checks.due("0 is TIRED: it swims, but pulls nobody", ferry.left(), 2);
    }

    /** "BEINGS (at most 10": every state is gone through. */
    private static void ofTen() {
        String nine = "person 9 70 swims;person 8 60 swims;person 7 50;beast 9 90;lame 40;goods 30;"
                + "lame 60;beast 5 20 swims;person 3 80;";
        String pairs = "apart 3 5 unless 0;apart 7 9 unless 3;apart 4 6 unless 2;with 6 2;with 5 8";
        Checks.due("all ten go over",
                Checks.ferryWith(nine + "goods 99;stream 0 1;wide 60", pairs).left(), 0);
        Checks.due("the 10th is too heavy",
                Checks.ferryWith(nine + "goods 99;rope 118;stream 0 1").left(), 512);
    }

    /** "(CLOCK and TIRED stand)" */
    private static void nothingChanges() {
        RopeFerry ferry = Checks.ferryWith("person 5 5 swims;lame 5");
        java.util.List<Integer> before = Checks.answersOf(ferry);
        ferry.left();
        Checks.same("behind left()", Checks.answersOf(ferry), before);
    }
}
