/** Promise 4 (river): where a text is wrong, and what is left of it. */
public final class RiverFaultTest {
    public static void main(String[] args) {
        moreMustCome();
        cannotStandThere();
        nextLineTooEarly();
        longest();
        nothingStays();
        tenTexts();
        wrongAheadOfTooMany();
        usesUp();
        Checks.finish();
    }

    private static void wrong(String text, int at) {
        Checks.wrongRiver(new RopeFerry(), text, at);
    }

    /** "or the text's length, if more must come" */
    private static void moreMustCome() {
        wrong("person", 6);
        wrong("person  ", 8);
        wrong("person 5", 8);
        wrong("beast 5", 7);
        wrong("goods", 5);
        wrong("lame", 4);
        wrong("rope", 4);
        wrong("boat", 4);
        wrong("wide ", 5);
        wrong("stream 5", 8);
        wrong("lame 1;apart", 12);
        wrong("lame 1;apart 0", 14);
        wrong("lame 1;lame 1;apart 0 1 unless", 30);
        wrong("lame 1;with", 11);
        wrong("lame 1;with 0 ", 14);
        wrong("boat 1;", 7);
        wrong("boat 1 ; ", 9);
    }

    /** "The first wrong byte: the begin of the first thing that cannot stand there" */
    private static void cannotStandThere() {
        wrong("5 person", 0);
        wrong("swims", 0);
        wrong("unless 0", 0);
        wrong(";", 0);
        wrong(" ; boat 1", 1);
        wrong("boat 1;;boat 1", 7);
        wrong("boat 1,boat 1", 6);
        wrong("boat 1\0", 6);
        wrong("boat 1;goods 5a", 14);
        wrong("boat 1;rope 0", 12);
        wrong("boat boat 1", 5);
        wrong("person 5 swims", 9);
        wrong("lame 5;lame 5;lame 5;apart 0 1 2", 31);
        wrong("lame 5;lame 5;lame 5;with 2 1 unless 0", 30);
        wrong("lame 5;lame 5;lame 5;apart 0 unless 1", 29);
        wrong("lame 5;lame 5;apart 0 1;swims", 24);
        // Of two wrong things the first is told.
        wrong("person 10 0", 7);
        wrong("boat 100;rope 0", 5);
    }

    /** "the first thing that cannot stand there": also the ; that comes too early. */
    private static void nextLineTooEarly() {
        String[] begun = {"person", "person 5", "beast 5", "goods", "lame", "rope", "boat", "wide",
            "stream", "stream 5", "lame 1;apart", "lame 1;apart 0", "lame 1;lame 1;apart 0 1 unless",
            "lame 1;with", "lame 1;with 0"};
        for (String line : begun) {
            wrong(line + ";boat 1", line.length());
        }
    }

    /** "if it would have more than 400": texts of just 400 are read to their end. */
    private static void longest() {
        String text = "boat 1" + " ".repeat(394);
        Checks.due("a text of 400", Checks.river(new RopeFerry(), text), 1);
        wrong(";".repeat(400), 0);
        wrong("boat 1" + " ".repeat(393) + ";", 400);
        wrong("boat 1" + " ".repeat(393) + "x", 399);
        wrong("a".repeat(400), 0);
        wrong("boat " + "1".repeat(395), 5);
    }

    /** "Of a wrong text nothing stays." */
    private static void nothingStays() {
        RopeFerry ferry = Checks.ferryWith("person 5 60;goods 20;stream 3 4");
        java.util.List<Integer> before = Checks.answersOf(ferry);
        Checks.wrongRiver(ferry,
                "rope 5;boat 5;wide 5;stream 0 5;lame 5;apart 0 1;with 1 0;person 1 1 swims;x", 75);
        Checks.same("behind a wrong text", Checks.answersOf(ferry), before);
        // Neither its 12 apart nor its 12 with are counted.
        for (String pair : new String[] {"apart 0 1", "with 0 1"}) {
            Checks.wrongRiver(ferry, Checks.times(pair, 12) + ";x", 12 * pair.length() + 12);
            Checks.due("12 of '" + pair + "'", Checks.river(ferry, Checks.times(pair, 12)) > 0, true);
        }
        Checks.river(ferry, "person 9 9");
        Checks.due("who did not stay does not SWIM", ferry.look(2, 3), 0);
    }

    /** "UnsupportedOperationException: there are 10." "THE RIVER is told in texts (at most 10" */
    private static void tenTexts() {
        RopeFerry ferry = new RopeFerry();
        for (int n = 1; n <= 10; n++) {
            Checks.due("river " + n, Checks.river(ferry, "boat " + n), n);
        }
        Checks.tell(ferry, "boat 77;lame 5");
        Checks.refused(ferry, "an 11th text", UnsupportedOperationException.class, ferry::river);
        Checks.refused(ferry, "an empty 11th", UnsupportedOperationException.class, ferry::river);
        Checks.due("BOAT", ferry.count(7), 10);
        Checks.due("texts of THE RIVER", ferry.count(1), 10);
        RopeFerry wrongOnes = new RopeFerry();
        for (int n = 0; n < 11; n++) {
            Checks.wrongRiver(wrongOnes, "x", 0);
        }
        Checks.due("wrong ones are not counted", Checks.river(wrongOnes, "boat 1"), 1);
    }

    /** "Of several exceptions the one told first is thrown" */
    private static void wrongAheadOfTooMany() {
        RopeFerry ferry = new RopeFerry();
        for (int n = 0; n < 10; n++) {
            ferry.river();
        }
        Checks.wrongRiver(ferry, "boat x", 5);
    }

    /** "Uses the TAPE up: a text of THE RIVER" */
    private static void usesUp() {
        RopeFerry ferry = new RopeFerry();
        Checks.river(ferry, "boat 7");
        Checks.due("behind a right text: end(1)", ferry.end(1), false);
        Checks.wrongRiver(ferry, "boat x", 5);
        for (int n = 1; n < 10; n++) {
            ferry.river();
        }
        Checks.tell(ferry, "boat 77");
        Checks.thrown("an 11th text", UnsupportedOperationException.class, ferry::river);
        Checks.due("behind a refused text: end(1)", ferry.end(1), false);
        Checks.due("feed behind it", ferry.feed(1, 2, 3, 4, 5), 20);
    }
}
