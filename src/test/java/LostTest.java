/** Promise 18 (lost). */
public final class LostTest {
    public static void main(String[] args) {
        oneToSixLoads();
        noSuchRow();
        bytesOfARow();
        belowNone();
        usesUp();
        howMany();
        theFirst();
        behindIt();
        without();
        alikeOnes();
        thoseThatAreNotThere();
        asMoves();
        fromNowOn();
        nothingChanges();
        Checks.finish();
    }

    private static RopeFerry river() {
        RopeFerry ferry = Checks.ferryWith("person 9 1 swims;person 9 1;lame 1;goods 1;stream 0 0;boat 0");
        ferry.swim(0);
        return ferry;
    }

    private static void noRow(String row, int k) {
        RopeFerry ferry = river();
        java.util.List<Integer> before = Checks.answersOf(ferry);
        Checks.tell(ferry, row);
        Checks.thrown("lost(" + k + ") of '" + row + "'", IllegalArgumentException.class,
                () -> ferry.lost(k));
        Checks.due("behind '" + row + "' the TAPE is used up: end(1)", ferry.end(1), false);
        Checks.due("no text was read", ferry.fault(), RopeFerry.NONE);
        Checks.same("behind '" + row + "'", Checks.answersOf(ferry), before);
    }

    private static void order(RopeFerry ferry, int[] loads, int many, int... due) {
        String call = "lost of " + java.util.Arrays.toString(loads) + ", ";
        Checks.due(call + "-1", Checks.lost(ferry, -1, loads), many);
        for (int k = 0; k < due.length; k++) {
            Checks.due(call + k, Checks.lost(ferry, k, loads), due[k]);
        }
        for (int k : new int[] {due.length, due.length + 1, Integer.MAX_VALUE}) {
            Checks.due(call + k, Checks.lost(ferry, k, loads), RopeFerry.NONE);
        }
    }

    private static void order(int[] loads, int many, int... due) {
        order(river(), loads, many, due);
    }

    /** "loads of CROSSINGS (1 to 6) are told" "IllegalArgumentException: it is no such row" */
    private static void oneToSixLoads() {
        noRow("", -1);
        noRow("", 0);
        order(new int[] {0}, 1, 0);
        order(new int[] {0, 0, 0, 0, 0, 0}, 720, 0, 1, 2, 3, 4, 5);
        noRow("00000000000000", -1);
        noRow("0".repeat(24), -1);
        noRow("0".repeat(400), 0);
    }

    /** "of each load two bytes" "IllegalArgumentException: it is no such row" */
    private static void noSuchRow() {
        noRow("0", -1);
        noRow("000", -1);
        noRow("00000000000", 0);
        noRow("0000000000000", 0);
        noRow("00 0", 0);
        noRow(" 00", 0);
        noRow("00;00", 0);
    }

    /** "48 and bits 0 to 4, 48 and bits 5 to 9": 48 to 79 each. */
    private static void bytesOfARow() {
        for (char byteOfNone : new char[] {47, 80, 0, 32, 127, 176, 255}) {
            noRow(byteOfNone + "0", -1);
            noRow("0" + byteOfNone, -1);
            noRow("0000" + byteOfNone + "0", 0);
            noRow("00000" + byteOfNone, 0);
        }
        Checks.due("OO, the load of all bits", Checks.lost(river(), -1, 1023), 0);
        RopeFerry ten = Checks.ferryWith("person 9 1 swims;" + Checks.times("lame 1", 9) + ";stream 0 0");
        ten.swim(0);
        order(ten, new int[] {1022}, 1, 0);
        Checks.tell(ten, "0100");
        // The load of 5 first: bits 5 to 9 are the second byte.
        Checks.due("lost(0) of 0 and 32: 5 cannot follow", ten.lost(-1), 0);
        Checks.tell(ten, "01");
        Checks.due("lost(-1) of the load of 5", ten.lost(-1), 1);
        ten.cross(32, 1);
        Checks.tell(ten, "01");
        Checks.due("5 is over", ten.lost(-1), 0);
    }

    /** "or k is below NONE" */
    private static void belowNone() {
        noRow("00", -2);
        noRow("00", Integer.MIN_VALUE);
        noRow("0", -2);
    }

    /** "Uses the TAPE up: LOST ORDER" */
    private static void usesUp() {
        RopeFerry ferry = river();
        Checks.lost(ferry, -1, 0);
        Checks.due("end(1) behind lost", ferry.end(1), false);
        Checks.thrown("lost of an empty TAPE", IllegalArgumentException.class, () -> ferry.lost(-1));
    }

    /** "in how many orders they can have been, one behind another" "in how many (k NONE)" */
    private static void howMany() {
        order(new int[] {2}, 1, 0);
        // 1 goes over, pulled by 0; it cannot come back: nobody pulls at BANK 0.
        order(new int[] {2, 0}, 0);
        order(new int[] {0, 4}, 1, 1, 0);
        order(new int[] {0, 6, 8}, 1, 2, 0, 1);
        order(new int[] {2, 1, 4}, 0);
    }

    /** "the first by their numbers" "the k-th number of the first" */
    private static void theFirst() {
        order(new int[] {8, 0, 4}, 2, 0, 1, 2);
        order(new int[] {0, 8, 4}, 2, 1, 0, 2);
        order(new int[] {1, 4}, 1, 1, 0);
        // 2 and 3 go by two of the three ways over, the empty ones by the rest: 6 times 6.
        order(new int[] {4, 0, 8, 0, 0}, 36, 0, 1, 2, 3, 4);
    }

    /** "(NONE without, or behind it)" */
    private static void behindIt() {
        for (int k : new int[] {3, 4, 6, Integer.MAX_VALUE}) {
            Checks.due("lost(" + k + ") of three", Checks.lost(river(), k, 8, 0, 4), RopeFerry.NONE);
        }
    }

    /** "(NONE without, or behind it)" */
    private static void without() {
        order(new int[] {1}, 0);
        for (int k : new int[] {0, 1, 5, Integer.MAX_VALUE}) {
            Checks.due("lost(" + k + ") without", Checks.lost(river(), k, 1), RopeFerry.NONE);
            Checks.due("lost(" + k + ") without", Checks.lost(river(), k, 2, 0), RopeFerry.NONE);
        }
    }

    /** "(all told apart, also alike ones)" */
    private static void alikeOnes() {
        order(new int[] {0, 0}, 2, 0, 1);
        order(new int[] {4, 4, 4}, 6, 0, 1, 2);
        order(new int[] {4, 0, 0, 4}, 12, 0, 1, 2, 3);
        order(new int[] {1, 4, 8, 1, 0}, 0);
    }

    /** "(but for load and PULLERS: those that are not there are refused)" */
    private static void thoseThatAreNotThere() {
        for (int load : new int[] {16, 16 | 4, 512, 1023, 1}) {
            Checks.due("lost(-1) of " + load, Checks.lost(river(), -1, load), 0);
        }
        Checks.due("where nobody is", Checks.lost(new RopeFerry(), -1, 0), 0);
    }

    /** "as MOVES": "all on the other BANK whose FORCE is above 0 are PULLERS". */
    private static void asMoves() {
        RopeFerry ferry = Checks.ferryWith("person 9 1;person 9 1");
        Checks.due("nobody pulls", Checks.lost(ferry, -1, 1), 0);
        Checks.due("nobody pulls", Checks.lost(ferry, 0, 0), RopeFerry.NONE);
        RopeFerry weak = Checks.ferryWith("person 2 1 swims;lame 5;person 3 1 swims;stream 0 0;boat 0");
        weak.swim(0);
        Checks.due("a PULLER without FORCE", Checks.lost(weak, -1, 2), 0);
        weak.swim(2);
        Checks.due("a PULLER of FORCE 1", Checks.lost(weak, -1, 2), 1);
        Checks.river(weak, "lame 20");
        Checks.due("NEED of 2", Checks.lost(weak, -1, 2 | 8), 0);
    }

    /** "from now on": by where all are, STREAM of now and all TIRED as now. */
    private static void fromNowOn() {
        RopeFerry ferry = river();
        ferry.cross(4, 1);
        order(ferry, new int[] {4, 8}, 1, 0, 1);
        order(ferry, new int[] {8, 4}, 1, 1, 0);
        RopeFerry hours = Checks.ferryWith("person 4 1 swims;lame 1;stream 0 0;stream 1 9;boat 0;wide 40");
        Checks.due("nobody pulls", Checks.lost(hours, -1, 2), 0);
        hours.swim(0);
        Checks.due("0 pulls", Checks.lost(hours, -1, 2), 1);
        hours.rest(20);
        Checks.due("STREAM is too strong", Checks.lost(hours, -1, 2), 0);
        // TIRED stands, however often one pulls.
        RopeFerry often = Checks.ferryWith("person 3 1 swims;person 1 1;stream 0 0;boat 0");
        often.swim(0);
        order(often, new int[] {0, 0, 0, 0, 0, 0}, 720, 0, 1, 2, 3, 4, 5);
    }

    /** "in how many orders they can have been": none of them is gone. */
    private static void nothingChanges() {
        RopeFerry ferry = river();
        java.util.List<Integer> before = Checks.answersOf(ferry);
        Checks.lost(ferry, -1, 8, 0, 4);
        Checks.lost(ferry, 1, 8, 0, 4);
        Checks.same("behind lost", Checks.answersOf(ferry), before);
    }
}
