/** Promise 6 (fault). */
public final class FaultTest {
    public static void main(String[] args) {
        aheadOfAny();
        ofTheLatest();
        noneWithout();
        byARefusedText();
        rowsAreNoTexts();
        nothingElse();
        Checks.finish();
    }

    /** "NONE without one, and ahead of any." */
    private static void aheadOfAny() {
        RopeFerry ferry = new RopeFerry();
        Checks.due("fault()", ferry.fault(), RopeFerry.NONE);
        Checks.tell(ferry, "x");
        Checks.due("fault() of what is not read yet", ferry.fault(), RopeFerry.NONE);
    }

    /** "The first wrong byte of the latest text that was read" */
    private static void ofTheLatest() {
        RopeFerry ferry = new RopeFerry();
        Checks.wrongRiver(ferry, "boat x", 5);
        Checks.wrongRiver(ferry, "  x", 2);
        Checks.wrongRule(ferry, "5 if x", 5);
        Checks.wrongRule(ferry, "x", 0);
        Checks.wrongRiver(ferry, "boat 1;y", 7);
    }

    /** "NONE without one" */
    private static void noneWithout() {
        RopeFerry ferry = new RopeFerry();
        Checks.wrongRiver(ferry, "x", 0);
        Checks.river(ferry, "boat 1");
        Checks.due("behind a right river", ferry.fault(), RopeFerry.NONE);
        Checks.wrongRule(ferry, "x", 0);
        Checks.rule(ferry, "1");
        Checks.due("behind a right rule", ferry.fault(), RopeFerry.NONE);
        Checks.wrongRule(ferry, "x", 0);
        Checks.river(ferry, "");
        Checks.due("behind an empty river", ferry.fault(), RopeFerry.NONE);
        Checks.wrongRiver(ferry, "x", 0);
        Checks.rule(ferry, "  ");
        Checks.due("behind a blank rule", ferry.fault(), RopeFerry.NONE);
    }

    /** "fault(), where a text is read (also by one that is refused)" */
    private static void byARefusedText() {
        RopeFerry ferry = new RopeFerry();
        for (int n = 0; n < 10; n++) {
            ferry.river();
        }
        Checks.wrongRiver(ferry, "boat x", 5);
        Checks.tell(ferry, "boat 1");
        Checks.thrown("an 11th text", UnsupportedOperationException.class, ferry::river);
        Checks.due("behind a right text that is refused", ferry.fault(), RopeFerry.NONE);
    }

    /** "The first wrong byte of the latest text": a row of loads is none. */
    private static void rowsAreNoTexts() {
        RopeFerry ferry = new RopeFerry();
        Checks.tell(ferry, "/0");
        Checks.thrown("a wrong row", IllegalArgumentException.class, () -> ferry.lost(0));
        Checks.due("behind a wrong row", ferry.fault(), RopeFerry.NONE);
        Checks.wrongRiver(ferry, "boat x", 5);
        Checks.lost(ferry, 0, 0);
        Checks.due("behind a right row", ferry.fault(), 5);
        Checks.tell(ferry, "/0");
        Checks.thrown("a wrong row", IllegalArgumentException.class, () -> ferry.lost(0));
        Checks.due("behind a wrong row", ferry.fault(), 5);
    }

    /** "of the latest text that was read": calls that read none leave it alone. */
    private static void nothingElse() {
        RopeFerry ferry = Checks.ferryWith("person 9 1 swims");
        Checks.wrongRiver(ferry, "boat x", 5);
        ferry.swim(0);
        ferry.rest(5);
        ferry.image();
        ferry.back();
        ferry.feed(1, 2, 3, 4, 5);
        ferry.end(3);
        Checks.due("behind calls that read no text", ferry.fault(), 5);
    }
}
