import java.util.List;

/** Promises 20 (image) and 21 (back). */
public final class ImageTest {
    private static final String ALL = "person 9 5 swims;person 8 6;lame 7;goods 5;stream 0 1;boat 3";

    public static void main(String[] args) {
        noneKept();
        ofAll();
        ofWhatIsCounted();
        ofAMomentOfNothing();
        ofPullsOwed();
        ofTheRule();
        againAndAgain();
        oneAlone();
        butForTheTape();
        butForFault();
        butForTheImage();
        Checks.finish();
    }

    private static void changeAll(RopeFerry ferry) {
        Checks.river(ferry, "rope 90;boat 9;wide 3;stream 3 3;beast 3 3 swims;apart 0 3;with 3 2");
        Checks.rule(ferry, "4 if weight>3;5");
        ferry.swim(0);
        ferry.cross(2, 1);
        ferry.rest(100);
    }

    /** "false, and nothing happens, if none was kept." */
    private static void noneKept() {
        RopeFerry ferry = Checks.ferryWith(ALL);
        changeAll(ferry);
        List<Integer> before = Checks.answersOf(ferry);
        Checks.due("back()", ferry.back(), false);
        Checks.same("behind no back", Checks.answersOf(ferry), before);
    }

    /** "THE IMAGE (one) of all may be kept, and gone back to" */
    private static void ofAll() {
        RopeFerry ferry = Checks.ferryWith(ALL);
        List<Integer> before = Checks.answersOf(ferry);
        ferry.image();
        Checks.same("behind image", Checks.answersOf(ferry), before);
        changeAll(ferry);
        Checks.due("something is another", Checks.answersOf(ferry).equals(before), false);
        Checks.due("back()", ferry.back(), true);
        Checks.same("behind back", Checks.answersOf(ferry), before);
        RopeFerry late = Checks.ferryWith(ALL);
        changeAll(late);
        late.image();
        List<Integer> later = Checks.answersOf(late);
        late.cross(0, 16);
        late.swim(4);
        late.rest(600);
        Checks.due("back()", late.back(), true);
        Checks.same("behind back to where all are about", Checks.answersOf(late), later);
    }

    /** "of all": the texts, BEINGS, apart and with that are gone may be told anew. */
    private static void ofWhatIsCounted() {
        RopeFerry ferry = Checks.ferryWith(ALL);
        for (String line : new String[] {"apart 0 1", "with 0 1"}) {
            ferry.image();
            Checks.river(ferry, Checks.times(line, 12));
            ferry.back();
            Checks.due("12 of " + line, Checks.river(ferry, Checks.times(line, 12)), 2);
            ferry.back();
        }
        for (int n = 2; n <= 10; n++) {
            Checks.due("river", Checks.river(ferry, n == 2 ? Checks.times("lame 9", 6) : ""), n);
        }
        ferry.back();
        for (int n = 2; n <= 10; n++) {
            Checks.due("river", Checks.river(ferry, n == 2 ? Checks.times("goods 8", 6) : ""), n);
        }
        Checks.due("KIND of the 10th", ferry.look(9, 0), 2);
    }

    /** "of all": also of a new object. */
    private static void ofAMomentOfNothing() {
        RopeFerry ferry = new RopeFerry();
        List<Integer> before = Checks.answersOf(ferry);
        ferry.image();
        Checks.river(ferry, ALL);
        changeAll(ferry);
        Checks.due("back()", ferry.back(), true);
        Checks.same("behind back", Checks.answersOf(ferry), before);
        Checks.thrown("look(0, 0)", IndexOutOfBoundsException.class, () -> ferry.look(0, 0));
        Checks.river(ferry, "lame 5;person 9 5");
        Checks.due("SWIMS of who is new", ferry.look(0, 3), 0);
        Checks.due("TIRED of who is new", ferry.look(0, 4), 0);
        Checks.due("BANK of who is new", ferry.look(0, 6), 0);
        Checks.due("owed(1, 0)", ferry.owed(1, 0), 0);
    }

    /** "of all": the PULLS of each that owes, the first and the last. */
    private static void ofPullsOwed() {
        RopeFerry ferry = Checks.ferryWith("person 9 5;" + Checks.times("lame 5", 7)
                + ";person 9 5 swims;person 9 5;stream 0 0;boat 0;wide 1");
        ferry.swim(8);
        ferry.cross(1 | 2, 256);
        ferry.cross(0, 512);
        ferry.image();
        List<Integer> before = Checks.answersOf(ferry);
        ferry.cross(4 | 128 | 512, 1 | 256);
        Checks.due("BALANCE of 9", ferry.look(9, 7), -2);
        ferry.swim(8);
        ferry.cross(1, 256);
        Checks.due("BALANCE of 0", ferry.look(0, 7), 1);
        ferry.back();
        Checks.same("behind back", Checks.answersOf(ferry), before);
        Checks.due("owed(0, 8)", ferry.owed(0, 8), 1);
        Checks.due("owed(9, 8)", ferry.owed(9, 8), 0);
    }

    /** "of all": RULE, too, or that there was none. */
    private static void ofTheRule() {
        RopeFerry ferry = Checks.ferryWith(ALL);
        ferry.image();
        Checks.rule(ferry, "1;2");
        ferry.back();
        Checks.due("LINES: without a RULE", ferry.count(9), RopeFerry.NONE);
        Checks.rule(ferry, "1;2");
        ferry.image();
        Checks.rule(ferry, "");
        ferry.back();
        Checks.due("LINES of the RULE", ferry.count(9), 2);
    }

    /** "One goes back to THE IMAGE: true": as often as one likes. */
    private static void againAndAgain() {
        RopeFerry ferry = Checks.ferryWith(ALL);
        ferry.image();
        List<Integer> before = Checks.answersOf(ferry);
        for (int n = 0; n < 3; n++) {
            changeAll(ferry);
            Checks.due("back()", ferry.back(), true);
            Checks.same("behind back " + n, Checks.answersOf(ferry), before);
        }
        Checks.due("back() at once", ferry.back(), true);
        Checks.same("behind it", Checks.answersOf(ferry), before);
    }

    /** "THE IMAGE (one)": the latest that was kept. */
    private static void oneAlone() {
        RopeFerry ferry = Checks.ferryWith(ALL);
        ferry.image();
        changeAll(ferry);
        ferry.image();
        List<Integer> later = Checks.answersOf(ferry);
        ferry.rest(600);
        Checks.due("back()", ferry.back(), true);
        Checks.same("behind back", Checks.answersOf(ferry), later);
        Checks.due("back() again", ferry.back(), true);
        Checks.same("behind back again", Checks.answersOf(ferry), later);
    }

    /** "(but for the TAPE" */
    private static void butForTheTape() {
        RopeFerry ferry = Checks.ferryWith(ALL);
        Checks.tell(ferry, "boat 44");
        ferry.image();
        Checks.due("end(6) behind image()", ferry.end(6), true);
        ferry.back();
        Checks.due("end(7) behind back()", ferry.end(7), false);
        ferry.river();
        Checks.due("BOAT by what was on the TAPE", ferry.count(7), 4);
        Checks.tell(ferry, "boat 55");
        ferry.back();
        ferry.river();
        Checks.due("BOAT by what came behind image()", ferry.count(7), 55);
    }

    /** "fault()" stays, as it is by the latest text. */
    private static void butForFault() {
        RopeFerry ferry = Checks.ferryWith(ALL);
        ferry.image();
        Checks.wrongRiver(ferry, "boat x", 5);
        ferry.back();
        Checks.due("fault() behind back()", ferry.fault(), 5);
        ferry.image();
        Checks.rule(ferry, "1");
        ferry.back();
        Checks.due("fault() behind back()", ferry.fault(), RopeFerry.NONE);
    }

    /** "and THE IMAGE itself)": it stays kept, though none was kept at its moment. */
    private static void butForTheImage() {
        RopeFerry ferry = Checks.ferryWith(ALL);
        ferry.image();
        Checks.due("back()", ferry.back(), true);
        Checks.due("back() again", ferry.back(), true);
    }
}
