/** Promises 15 (plan) and 16 (row). */
public final class PlanTest {
    public static void main(String[] args) {
        told();
        setOfNobody();
        setOfNone();
        allAreThere();
        cannotBe();
        planOfAnother();
        minutesOrMoves();
        ofSeveralTheFewestMoves();
        ofSeveralTheFewestMinutes();
        lesserLoadFirst();
        crossingAheadOfSwim();
        swimsByNumber();
        swimOfTheLast();
        swimsBack();
        rowBehind();
        streamOfNow();
        tiredAsNow();
        whoPulls();
        rowBehindAnother();
        goesThroughMuch();
        Checks.finish();
    }

    private static void plan(RopeFerry ferry, int set, boolean moves, int minutes, int length) {
        String call = "plan(" + set + ", " + moves + ", ";
        Checks.due(call + "0)", ferry.plan(set, moves, 0), minutes);
        Checks.due(call + "1)", ferry.plan(set, moves, 1), length);
    }

    private static void row(RopeFerry ferry, int set, boolean moves, int... due) {
        String call = "row(" + set + ", " + moves + ", ";
        for (int k = 0; k < due.length; k++) {
            Checks.due(call + k + ")", ferry.row(set, moves, k), due[k]);
        }
        for (int k : new int[] {due.length, due.length + 1, Integer.MAX_VALUE, -1, -2,
            Integer.MIN_VALUE}) {
            Checks.due(call + k + ")", ferry.row(set, moves, k), RopeFerry.NONE);
        }
    }

    private static RopeFerry four() {
        return Checks.ferryWith("person 6 60;person 5 70 swims;goods 40;beast 4 50;"
                + "apart 2 3 unless 0;with 2 0;stream 0 1");
    }

    /** "the fewest MINUTES (or the fewest MOVES) until all of it are at BANK 1" */
    private static void told() {
        RopeFerry ferry = four();
        java.util.List<Integer> before = Checks.answersOf(ferry);
        plan(ferry, 15, false, 33, 4);
        plan(ferry, 15, true, 33, 4);
        row(ferry, 15, false, 1025, 8, 0, 5);
        plan(ferry, 2, false, 11, 1);
        row(ferry, 2, true, 1025);
        // "(CLOCK and TIRED stand)": nothing is done by asking.
        Checks.same("behind plans", Checks.answersOf(ferry), before);
    }

    /** "until all of it are at BANK 1": of nobody they are at once. */
    private static void setOfNobody() {
        RopeFerry ferry = four();
        plan(ferry, 0, false, 0, 0);
        plan(ferry, 0, true, 0, 0);
        row(ferry, 0, false);
        RopeFerry empty = new RopeFerry();
        plan(empty, 0, false, 0, 0);
        row(empty, 0, true);
    }

    /** "Sets are bits; of none they count for nothing" */
    private static void setOfNone() {
        RopeFerry ferry = four();
        plan(ferry, -1, false, 33, 4);
        plan(ferry, -1, true, 33, 4);
        row(ferry, -1, false, 1025, 8, 0, 5);
        plan(ferry, 2 | 16 | 1024 | Integer.MIN_VALUE, false, 11, 1);
        row(ferry, 2 | 16 | 1024 | Integer.MIN_VALUE, true, 1025);
        for (int none : new int[] {~15, 16, 512, 1024, 2048, Integer.MIN_VALUE}) {
            plan(ferry, none, true, 0, 0);
            row(ferry, none, true);
        }
        plan(new RopeFerry(), -1, false, 0, 0);
    }

    /** "until all of it are at BANK 1": wherever THE FERRY and the others are. */
    private static void allAreThere() {
        RopeFerry ferry = four();
        ferry.swim(1);
        plan(ferry, 2, false, 0, 0);
        row(ferry, 2, true);
        ferry.rest(180);
        ferry.cross(0, 2);
        ferry.rest(60);
        plan(ferry, 2, true, 0, 0);
        // THE FERRY comes back, 3 goes, so that 0 leaves nobody alone who may not be.
        plan(ferry, 1, false, 2 + 10 + 4 + 6, 4);
        row(ferry, 1, false, 0, 8, 0, 1);
    }

    /** "None, if it cannot be." "NONE without" */
    private static void cannotBe() {
        RopeFerry ferry = four();
        Checks.river(ferry, "with 3 2");
        plan(ferry, 8, false, RopeFerry.NONE, RopeFerry.NONE);
        plan(ferry, 15, true, RopeFerry.NONE, RopeFerry.NONE);
        row(ferry, 8, false);
        row(ferry, 15, true);
        plan(ferry, 2, false, 11, 1);
        // What was found before is no help.
        plan(ferry, 8, false, RopeFerry.NONE, RopeFerry.NONE);
        row(ferry, 2, false, 1025);
        row(ferry, 8, false);
        RopeFerry nobodyMoves = Checks.ferryWith("person 9 1;lame 1");
        plan(nobodyMoves, 1, false, RopeFerry.NONE, RopeFerry.NONE);
        row(nobodyMoves, 1, false);
    }

    /** "NoSuchElementException: another what." */
    private static void planOfAnother() {
        RopeFerry ferry = Checks.ferryWith("person 6 60");
        for (int what : new int[] {-1, 2, 3, Integer.MAX_VALUE, Integer.MIN_VALUE}) {
            Checks.refused(ferry, "plan(0, true, " + what + ")",
                    java.util.NoSuchElementException.class, () -> ferry.plan(0, true, what));
            Checks.thrown("plan(1, false, " + what + "), which cannot be",
                    java.util.NoSuchElementException.class, () -> ferry.plan(1, false, what));
        }
    }

    /** "PLAN by MINUTES (moves false) or MOVES" */
    private static void minutesOrMoves() {
        // More moves, less minutes: another is taken over to pull, and a beast pulls back.
        RopeFerry ferry = Checks.ferryWith("person 9 5 swims;person 9 5;beast 9 5;lame 90;stream 0 0;"
                + "boat 0;wide 60");
        plan(ferry, 8, true, 94, 2);
        row(ferry, 8, true, 1024, 8);
        plan(ferry, 8, false, 85, 4);
        row(ferry, 8, false, 1024, 2, 0, 8);
    }

    /** "of several the fewest MOVES" */
    private static void ofSeveralTheFewestMoves() {
        // 0 swims (19) and pulls 1 (7), or 2 swims (19), pulls 1 (3), 0 pulls back (1), both pull 0 (3).
        RopeFerry ferry = Checks.ferryWith("person 3 40 swims;person 8 8;person 9 4 swims;stream 0 0;"
                + "boat 0;wide 19");
        plan(ferry, 3, false, 26, 2);
        row(ferry, 3, false, 1024, 2);
    }

    /** "(or the fewest MOVES) .. of several the fewest MOVES (MINUTES)" */
    private static void ofSeveralTheFewestMinutes() {
        // Whoever swims pulls the other: by 3 in 59 minutes, by 4 in 45.
        RopeFerry ferry = Checks.ferryWith("person 3 52 swims;person 4 41 swims;stream 0 0;boat 0;wide 59");
        plan(ferry, 3, true, 59 + 45, 2);
        row(ferry, 3, true, 1025, 1);
        RopeFerry two = Checks.ferryWith("person 1 5 swims;person 8 1 swims;goods 60;lame 1;stream 0 1;"
                + "boat 0;wide 20;with 2 0");
        // 1 swims (21), 0 and 2 go with a load of 65: NEED 5, 100 by 8.
        plan(two, 4, true, 21 + 13, 2);
        row(two, 4, true, 1025, 5);
        RopeFerry three = Checks.ferryWith("person 2 99 swims;person 1 99 swims;person 9 10;lame 90;"
                + "stream 0 0;boat 0;wide 60");
        // 0 swims, takes 2 over (30), and with 2 the lame: NEED 5 cannot be by 2 alone.
        plan(three, 8, true, 119, 4);
        row(three, 8, true, 1024, 4, 0, 8);
    }

    /** "of the MOVES by which it is still so, each time the first: CROSSINGS by load as bits" */
    private static void lesserLoadFirst() {
        RopeFerry ferry = Checks.ferryWith("person 5 5 swims;person 5 5;goods 1;stream 0 1;wide 1");
        ferry.swim(0);
        // 2 may go along: it costs nothing more.
        plan(ferry, 2, true, 1, 1);
        row(ferry, 2, true, 2);
        row(ferry, 4, false, 4);
        row(ferry, 2 | 4, true, 6);
        RopeFerry trips = Checks.ferryWith("person 9 5 swims;goods 50;goods 50;person 9 5;stream 0 0;"
                + "boat 0;rope 50;wide 1");
        trips.swim(0);
        // Two loads, either of which may be the first.
        plan(trips, 6, true, 3, 3);
        row(trips, 6, true, 2, 0, 4);
    }

    /** "each time the first: CROSSINGS by load as bits, then SWIMS by number" */
    private static void crossingAheadOfSwim() {
        RopeFerry ferry = Checks.ferryWith("person 5 5 swims;person 5 50 swims;stream 0 0;boat 0;wide 10");
        ferry.swim(0);
        // NEED of 1 is 3, as FORCE is: 10 minutes either way.
        plan(ferry, 2, false, 10, 1);
        row(ferry, 2, false, 2);
        row(ferry, 2, true, 2);
        Checks.river(ferry, "lame 60");
        Checks.due("a CROSSING of another is not so", ferry.row(2, false, 0), 2);
    }

    /** "then SWIMS by number" */
    private static void swimsByNumber() {
        RopeFerry ferry = Checks.ferryWith("person 5 5 swims;person 5 5 swims;lame 5;lame 5;stream 0 0;"
                + "boat 0;wide 10");
        row(ferry, 4, false, 1024, 4);
        row(ferry, 8, true, 1024, 8);
        row(ferry, 12, true, 1024, 12);
        row(ferry, 3, false, 1024, 2);
        Checks.river(ferry, "person 5 5 swims");
        row(ferry, 16, false, 1028);
    }

    /** "the load as bits, or 1024 and who SWIMS": the highest of both. */
    private static void swimOfTheLast() {
        RopeFerry ferry = Checks.ferryWith(Checks.times("goods 1", 9) + ";person 9 1 swims;stream 0 0");
        plan(ferry, 512, false, 10, 1);
        row(ferry, 512, false, 1033);
        row(ferry, 511, true, 1033, 511);
        RopeFerry first = Checks.ferryWith("person 9 1 swims;" + Checks.times("goods 1", 9) + ";stream 0 0");
        row(first, 1022, true, 1024, 1022);
    }

    /** "A SWIM: one that SWIMS goes to the other BANK": also back, where THE FERRY is wanted. */
    private static void swimsBack() {
        RopeFerry ferry = Checks.ferryWith("person 9 5 swims;goods 5;stream 0 0;boat 0;wide 7");
        ferry.swim(0);
        ferry.cross(0, 1);
        ferry.rest(600);
        // Back (7), to pull THE FERRY there (1), over again (7), to pull 1 over (1).
        plan(ferry, 2, false, 16, 4);
        row(ferry, 2, true, 1024, 0, 1024, 2);
    }

    /** "the k-th MOVE (from 0 on) .. NONE without, or behind." */
    private static void rowBehind() {
        RopeFerry ferry = four();
        row(ferry, 15, false, 1025, 8, 0, 5);
        for (int k : new int[] {4, 5, 2047, 2048, Integer.MAX_VALUE, -1, Integer.MIN_VALUE}) {
            Checks.due("row(15, false, " + k + ")", ferry.row(15, false, k), RopeFerry.NONE);
            Checks.due("row(0, false, " + k + ")", ferry.row(0, false, k), RopeFerry.NONE);
            Checks.due("row(7, true, " + k + ") of nobody", new RopeFerry().row(7, true, k),
                    RopeFerry.NONE);
        }
    }

    /** "By STREAM of now" */
    private static void streamOfNow() {
        RopeFerry ferry = Checks.ferryWith("person 4 5 swims;lame 5;stream 0 2;stream 1 9;stream 2 0;"
                + "boat 0;wide 60");
        // The SWIM takes more than an hour: the PLAN still goes by STREAM of now.
        plan(ferry, 3, false, 107, 2);
        plan(ferry, 2, false, 107, 2);
        ferry.rest(59);
        plan(ferry, 2, false, 107, 2);
        ferry.rest(1);
        plan(ferry, 2, false, RopeFerry.NONE, RopeFerry.NONE);
        ferry.rest(60);
        plan(ferry, 2, false, 75, 2);
    }

    /** "and all TIRED as now (CLOCK and TIRED stand)" */
    private static void tiredAsNow() {
        RopeFerry ferry = Checks.ferryWith("person 5 5 swims;lame 5;lame 40;stream 0 0;boat 0;wide 6;"
                + "rope 40;person 9 1");
        // Whoever swam pulls by all the FORCE of now, again and again.
        plan(ferry, 6, false, 6 + 2 + 1 + 3, 4);
        ferry.swim(0);
        Checks.due("FORCE", ferry.look(0, 5), 3);
        plan(ferry, 6, false, 2 + 1 + 4, 3);
        ferry.rest(600);
        plan(ferry, 6, false, 2 + 1 + 3, 3);
    }

    /** "by which all on the other BANK whose FORCE is above 0 are PULLERS" */
    private static void whoPulls() {
        RopeFerry weak = Checks.ferryWith("person 2 5 swims;lame 5;stream 0 0;boat 0;wide 5");
        weak.swim(0);
        Checks.due("FORCE", weak.look(0, 5), 0);
        plan(weak, 2, false, RopeFerry.NONE, RopeFerry.NONE);
        weak.rest(60);
        plan(weak, 2, false, 5, 1);
        // Also those pull who need not: FORCE of all.
        RopeFerry all = Checks.ferryWith("person 9 5 swims;beast 9 5 swims;lame 5;stream 0 0;boat 0;wide 28");
        all.swim(0);
        plan(all, 4, false, 4, 1);
        all.swim(1);
        plan(all, 4, false, 2, 1);
    }

    /** "of the MOVES by which it is still so": an earlier ROW is no help to take a detour. */
    private static void rowBehindAnother() {
        RopeFerry ferry = Checks.ferryWith("person 9 20 swims;lame 20;person 9 20;stream 0 0;boat 0");
        // All are at BANK 0 as this PLAN begins.
        row(ferry, 1, false, 1024);
        ferry.swim(0);
        // THE FERRY could go with nobody (1), and come back with 0 (2): it is no part of this PLAN.
        plan(ferry, 2, false, 2, 1);
        row(ferry, 2, false, 2);
    }

    /** "BEINGS (at most 10": every state and every load is gone through. */
    private static void goesThroughMuch() {
        RopeFerry ferry = Checks.ferryWith("person 9 70 swims;person 8 60 swims;person 7 50;beast 9 90;"
                + "lame 40;goods 30;lame 60;beast 5 20 swims;person 3 80;goods 99;stream 0 1;wide 60",
                "apart 3 5 unless 0;apart 7 9 unless 3;apart 4 6 unless 2;with 6 2;with 5 8");
        plan(ferry, 1023, false, 212, 8);
        plan(ferry, 1023, true, 212, 8);
        row(ferry, 1023, false, 1025, 136, 0, 68, 0, 528, 0, 289);
    }
}
