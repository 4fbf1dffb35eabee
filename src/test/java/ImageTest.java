import java.util.List;

/** Promises 20 (image), 21 (back), 22 (count). */
public final class ImageTest {
    private static final String ALL = "person 9 5 swims;person 8 6;lame 7;goods 5;stream 0 1;boat 3";

    public static void main(String[] args) {
        noImage();
        backToAll();
        backAgain();
        whatStays();
        count();
        Checks.finish();
    }

    private static void noImage() {
        RopeFerry ferry = Checks.ferryWith(ALL);
        List<Integer> before = Checks.answersOf(ferry);
        Checks.due("back()", ferry.back(), false);
        Checks.same("behind no back", Checks.answersOf(ferry), before);
    }

    private static void changeAll(RopeFerry ferry) {
        Checks.river(ferry, "rope 90;boat 9;wide 3;stream 3 3;beast 3 3 swims;apart 0 3;with 3 2");
        Checks.rule(ferry, "4 if weight>3;5");
        ferry.swim(0);
        ferry.cross(2, 1);
        ferry.rest(100);
    }

    private static void backToAll() {
        RopeFerry ferry = Checks.ferryWith(ALL);
        List<Integer> before = Checks.answersOf(ferry);
        ferry.image();
        changeAll(ferry);
        Checks.due("something is another", Checks.answersOf(ferry).equals(before), false);
        Checks.due("back()", ferry.back(), true);
        Checks.same("behind back", Checks.answersOf(ferry), before);
        Checks.due("LINES: still without a RULE", ferry.count(9), RopeFerry.NONE);
        Checks.due("row", ferry.row(15, false, 0), 1024);
        // The texts and pairs that are gone may be told anew.
        for (int n = 2; n <= 10; n++) {
            Checks.due("river", Checks.river(ferry, "apart 0 1"), n);
        }
        RopeFerry full = Checks.ferryWith(ALL);
        full.image();
        Checks.river(full, "with 0 1;with 0 1;with 0 1;with 0 1;with 0 1;with 0 1;with 0 1");
        full.back();
        Checks.due("river", Checks.river(full,
                "with 0 1;with 0 1;with 0 1;with 0 1;with 0 1;with 0 1;with 0 1"), 2);
    }

    private static void backAgain() {
        RopeFerry ferry = Checks.ferryWith(ALL);
        changeAll(ferry);
        ferry.image();
        List<Integer> before = Checks.answersOf(ferry);
        ferry.cross(0, 16);
        ferry.swim(4);
        Checks.rule(ferry, "");
        Checks.due("back()", ferry.back(), true);
        Checks.same("behind back", Checks.answersOf(ferry), before);
        ferry.rest(600);
        Checks.due("back() again", ferry.back(), true);
        Checks.same("behind back again", Checks.answersOf(ferry), before);
        ferry.rest(1);
        ferry.image();
        List<Integer> later = Checks.answersOf(ferry);
        ferry.rest(600);
        Checks.due("back() to the later one", ferry.back(), true);
        Checks.same("one image alone", Checks.answersOf(ferry), later);
    }

    private static void whatStays() {
        RopeFerry ferry = Checks.ferryWith(ALL);
        ferry.feed(1, 2, 3, 4, 5);
        ferry.image();
        Checks.due("the TAPE behind image()", ferry.end(7), true);
        ferry.back();
        Checks.due("the TAPE behind back()", ferry.end(8), false);
        Checks.due("the TAPE behind back()", ferry.end(7), true);
        ferry.end(0);
        Checks.tell(ferry, "boat x");
        Checks.thrown("a wrong text", IllegalArgumentException.class, ferry::river);
        ferry.back();
        Checks.due("fault() behind back()", ferry.fault(), 5);
        ferry.image();
        Checks.rule(ferry, "1");
        ferry.back();
        Checks.due("fault() behind back()", ferry.fault(), RopeFerry.NONE);
        Checks.due("THE IMAGE stays kept", ferry.back(), true);
    }

    private static void count() {
        RopeFerry ferry = Checks.ferryWith(ALL, "rope 77;wide 9");
        Checks.rule(ferry, "1;2");
        ferry.swim(0);
        ferry.cross(4, 1);
        ferry.cross(0, 2);
        int[] due = {4, 2, 16, 0, 5, 1, 77, 3, 9, 2, 2, 1};
        for (int what = 0; what < due.length; what++) {
            Checks.due("count(" + what + ")", ferry.count(what), due[what]);
        }
        for (int what : new int[] {-1, 12, 13, Integer.MAX_VALUE, Integer.MIN_VALUE}) {
            Checks.due("count(" + what + ")", ferry.count(what), RopeFerry.NONE);
        }
    }
}
