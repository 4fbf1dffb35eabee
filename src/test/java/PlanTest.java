/** Promises 15 (plan), 16 (row), 17 (left). */
public final class PlanTest {
    public static void main(String[] args) {
        told();
        wrongOnes();
        minutesOrMoves();
        eachItsOwn();
        ofSeveralTheFirst();
        byNow();
        goesThroughMuch();
        left();
        Checks.finish();
    }

    private static void plan(RopeFerry ferry, int set, boolean moves, int minutes, int length) {
        String call = "plan(" + set + ", " + moves + ", ";
        Checks.due(call + "0)", ferry.plan(set, moves, 0), minutes);
        Checks.due(call + "1)", ferry.plan(set, moves, 1), length);
    }

    private static void row(RopeFerry ferry, int set, boolean moves, int... due) {
        String call = "row(" + set + ", " + moves + ", ";
        for (int k = 0; k < due.length; k++) {
            Checks.due(call + k + ")", ferry.row(set, moves, k), due[k]);
        }
        for (int k : new int[] {due.length, due.length + 1, Integer.MAX_VALUE, -1, -2,
            Integer.MIN_VALUE}) {
            Checks.due(call + k + ")", ferry.row(set, moves, k), RopeFerry.NONE);
        }
    }

    /** The river of the document's own run. */
    private static void told() {
        RopeFerry ferry = Checks.ferryWith("person 6 60;person 5 70 swims;goods 40;beast 4 50;"
                + "apart 2 3 unless 0;with 2 0;stream 0 1");
        java.util.List<Integer> before = Checks.answersOf(ferry);
        plan(ferry, 15, false, 33, 4);
        plan(ferry, -1, true, 33, 4);
        row(ferry, 15, false, 1025, 8, 0, 5);
        plan(ferry, 2, false, 11, 1);
        row(ferry, 2, true, 1025);
        plan(ferry, 0, false, 0, 0);
        row(ferry, 0, false);
        plan(ferry, ~15, true, 0, 0);
        Checks.same("behind plans", Checks.answersOf(ferry), before);
        Checks.river(ferry, "with 3 2");
        plan(ferry, 8, false, RopeFerry.NONE, RopeFerry.NONE);
        row(ferry, 8, false);
    }

    private static void wrongOnes() {
        RopeFerry ferry = Checks.ferryWith("person 6 60");
        for (int what : new int[] {-1, 2, Integer.MAX_VALUE, Integer.MIN_VALUE}) {
            Checks.thrown("plan(0, true, " + what + ")", java.util.NoSuchElementException.class,
                    () -> ferry.plan(0, true, what));
            Checks.thrown("plan(1, false, " + what + "), which cannot be",
                    java.util.NoSuchElementException.class, () -> ferry.plan(1, false, what));
        }
    }

    /** A strong swimmer and a weak one: fewer moves, or fewer minutes. */
    private static void minutesOrMoves() {
        RopeFerry ferry = Checks.ferryWith("person 2 5 swims;person 9 5 swims;lame 5;stream 0 0;"
                + "boat 0;wide 60");
        // Either swims in 60 minutes; NEED of one or more is 1: 60 by FORCE.
        plan(ferry, 4, true, 67, 2);
        row(ferry, 4, true, 1025, 4);
        plan(ferry, 7, false, 67, 2);
        row(ferry, 7, false, 1025, 5);
        plan(ferry, 3, false, 67, 2);
        row(ferry, 3, false, 1025, 1);
        RopeFerry two = Checks.ferryWith("person 1 5 swims;person 8 1 swims;goods 60;lame 1;stream 0 1;"
                + "boat 0;wide 20;with 2 0");
        // By moves: 1 swims, 0 and 2 go with a load of 65: NEED 5, 100 by 8.
        plan(two, 4, true, 34, 2);
        row(two, 4, true, 1025, 5);
        RopeFerry three = Checks.ferryWith("person 1 40 swims;person 9 40 swims;lame 1;stream 0 1;"
                + "boat 0;wide 9");
        // 1 swims (10) and pulls: 18 by 9.
        plan(three, 4, false, 12, 2);
        RopeFerry four = Checks.ferryWith("person 2 99 swims;person 1 99 swims;person 9 10;lame 90;"
                + "stream 0 0;boat 0;wide 60");
        // 0 swims, takes 2 over (30), and with 2 the lame: NEED 5 cannot be by 2 alone.
        plan(four, 8, true, 119, 4);
        row(four, 8, true, 1024, 4, 0, 8);
    }

    /** More moves, less minutes: another is taken over to pull, and a beast pulls back. */
    private static void eachItsOwn() {
        RopeFerry ferry = Checks.ferryWith("person 9 5 swims;person 9 5;beast 9 5;lame 90;stream 0 0;"
                + "boat 0;wide 60");
        plan(ferry, 8, true, 94, 2);
        row(ferry, 8, true, 1024, 8);
        plan(ferry, 8, false, 85, 4);
        row(ferry, 8, false, 1024, 2, 0, 8);
    }

    private static void ofSeveralTheFirst() {
        RopeFerry ferry = Checks.ferryWith("person 5 5 swims;person 5 5 swims;lame 5;lame 5;stream 0 0;"
                + "boat 0;wide 10");
        // Both may swim first: the lower number; the load may hold others that cost nothing more.
        row(ferry, 4, false, 1024, 4);
        row(ferry, 8, true, 1024, 8);
        row(ferry, 12, true, 1024, 12);
        row(ferry, 3, false, 1024, 2);
        // A crossing comes ahead of a swim, a lesser load ahead of a greater.
        ferry.swim(0);
        row(ferry, 2, false, 2);
        Checks.river(ferry, "wide 1;boat 20;stream 0 1");
        plan(ferry, 2, true, 1, 1);
        row(ferry, 2, true, 2);
        Checks.river(ferry, "goods 1");
        row(ferry, 16, true, 16);
        plan(ferry, 2 | 16, true, 1, 1);
        row(ferry, 2 | 16, true, 18);
    }

    /** STREAM of now, and TIRED as now, whatever comes on the way. */
    private static void byNow() {
        RopeFerry ferry = Checks.ferryWith("person 4 5 swims;lame 5;stream 0 2;stream 1 9;stream 2 0;"
                + "boat 0;wide 60");
        plan(ferry, 3, false, 107, 2);
        plan(ferry, 2, false, 107, 2);
        ferry.rest(60);
        plan(ferry, 2, false, RopeFerry.NONE, RopeFerry.NONE);
        ferry.rest(60);
        plan(ferry, 2, false, 75, 2);
        ferry.swim(0);
        // TIRED is 2, less 1 for the hour.
        Checks.due("FORCE", ferry.look(0, 5), 3);
        plan(ferry, 2, false, 20, 1);
        ferry.image();
        ferry.cross(2, 1);
        plan(ferry, 2, false, 0, 0);
        row(ferry, 2, false);
        ferry.back();
        plan(ferry, 2, false, 20, 1);
        // Only those with FORCE pull: without any there is no crossing.
        RopeFerry weak = Checks.ferryWith("person 2 5 swims;lame 5;stream 0 0;boat 0;wide 5");
        weak.swim(0);
        Checks.due("FORCE", weak.look(0, 5), 0);
        plan(weak, 2, false, RopeFerry.NONE, RopeFerry.NONE);
        weak.rest(60);
        plan(weak, 2, false, 5, 1);
    }

    /** Ten beings: every state and every load is gone through. */
    private static void goesThroughMuch() {
        RopeFerry ferry = Checks.ferryWith("person 9 70 swims;person 8 60 swims;person 7 50;beast 9 90;"
                + "lame 40;goods 30;lame 60;beast 5 20 swims;person 3 80;goods 99;stream 0 1;wide 60",
                "apart 3 5 unless 0;apart 7 9 unless 3;apart 4 6 unless 2;with 6 2;with 5 8");
        plan(ferry, 1023, false, 212, 8);
        plan(ferry, 1023, true, 212, 8);
        row(ferry, 1023, false, 1025, 136, 0, 68, 0, 528, 0, 289);
        Checks.due("left()", ferry.left(), 0);
    }

    private static void left() {
        Checks.due("left() of nobody", new RopeFerry().left(), 0);
        RopeFerry ferry = Checks.ferryWith("person 3 60;person 3 60;lame 10");
        Checks.due("nobody can move", ferry.left(), 7);
        Checks.river(ferry, "person 4 10 swims;person 4 10 swims");
        Checks.due("the swimmers pull all", ferry.left(), 0);
        RopeFerry one = Checks.ferryWith("person 9 5 swims;person 9 5 swims;stream 0 0;apart 0 1");
        Checks.due("of several the least as bits", one.left(), 1);
        one.swim(1);
        Checks.due("none, where no move is needed", one.left(), 1);
        RopeFerry far = Checks.ferryWith("person 2 5 swims;stream 0 0");
        far.swim(0);
        Checks.due("all are over", far.left(), 0);
        RopeFerry with = Checks.ferryWith("goods 5;person 9 5 swims;lame 99;rope 60;stream 0 0;boat 0");
        Checks.due("what ROPE does not bear", with.left(), 4);
    }
}
