/** Promises 4 (river) and 6 (fault). */
public final class RiverTest {
    private static final String TEN = "person 1 1;person 2 2 swims;beast 3 3;beast 4 4 swims;goods 5;"
            + "lame 6;goods 7;lame 8;person 0 99;beast 9 10";

    public static void main(String[] args) {
        beings();
        measures();
        streams();
        blanks();
        pairs();
        firstWrongBytes();
        tooMany();
        longest();
        tenTexts();
        nothingStays();
        Checks.finish();
    }

    private static void wrong(String text, int at) {
        wrong(new RopeFerry(), text, at);
    }

    private static void wrong(RopeFerry ferry, String text, int at) {
        Checks.tell(ferry, text);
        Checks.thrown("river of '" + text + "'", IllegalArgumentException.class, ferry::river);
        Checks.due("fault of '" + text + "'", ferry.fault(), at);
        Checks.due("the tape behind it is used up: end(1)", ferry.end(1), false);
    }

    private static void beings() {
        RopeFerry ferry = new RopeFerry();
        Checks.due("river", Checks.river(ferry, TEN), 1);
        int[][] due = {{0, 1, 1, 0}, {0, 2, 2, 1}, {1, 3, 3, 0}, {1, 4, 4, 1}, {2, 0, 5, 0},
            {3, 0, 6, 0}, {2, 0, 7, 0}, {3, 0, 8, 0}, {0, 0, 99, 0}, {1, 9, 10, 0}};
        for (int being = 0; being < 10; being++) {
            for (int what = 0; what < 4; what++) {
                Checks.due("look(" + being + ", " + what + ")", ferry.look(being, what),
                        due[being][what]);
            }
            Checks.due("BANK of " + being, ferry.look(being, 6), 0);
        }
        Checks.due("BEINGS", ferry.count(0), 10);
        Checks.due("fault()", ferry.fault(), RopeFerry.NONE);
    }

    private static void measures() {
        RopeFerry ferry = Checks.ferryWith("rope 1;boat 0;wide 1");
        Checks.due("ROPE", ferry.count(6), 1);
        Checks.due("BOAT", ferry.count(7), 0);
        Checks.due("WIDE", ferry.count(8), 1);
        Checks.due("river", Checks.river(ferry, "rope 999;boat 99;wide 60;rope 998"), 2);
        Checks.due("ROPE, told twice", ferry.count(6), 998);
        Checks.due("BOAT", ferry.count(7), 99);
        Checks.due("WIDE", ferry.count(8), 60);
        wrong("rope 0", 5);
        wrong("rope 1000", 5);
        wrong("boat 100", 5);
        wrong("wide 0", 5);
        wrong("wide 61", 5);
    }

    private static void streams() {
        RopeFerry ferry = Checks.ferryWith("stream 0 1;stream 5 9;stream 23 0");
        for (int hour = 0; hour < 48; hour++) {
            int due = hour % 24 < 5 ? 1 : hour % 24 < 23 ? 9 : 0;
            Checks.due("STREAM of hour " + hour, ferry.count(5), due);
            ferry.rest(59);
            Checks.due("STREAM at the end of hour " + hour, ferry.count(5), due);
            ferry.rest(1);
        }
        wrong("stream 24 1", 7);
        wrong("stream 23 10", 10);
        wrong("stream 23", 9);
        wrong("stream", 6);
    }

    private static void blanks() {
        RopeFerry ferry = new RopeFerry();
        Checks.due("an empty text", ferry.river(), 1);
        Checks.due("a blank text", Checks.river(ferry, "     "), 2);
        Checks.due("no blanks", Checks.river(ferry, "person5 60swims;wide3"), 3);
        Checks.due("many blanks", Checks.river(ferry, "  lame   007  ;  boat 3  "), 4);
        Checks.due("SWIMS", ferry.look(0, 3), 1);
        Checks.due("WEIGHT", ferry.look(1, 2), 7);
        Checks.due("WIDE", ferry.count(8), 3);
        wrong("person 55 5", 7);
        wrong("wide\t5", 4);
        wrong("wide 5\n", 6);
    }

    private static void pairs() {
        String three = "lame 5;lame 5;lame 5;";
        RopeFerry ferry = Checks.ferryWith(three + "apart 0 1 unless 2;apart 2 0;with 0 2;with 0 1");
        Checks.due("may(3)", ferry.may(3), false);
        wrong(three + "apart 0 3", 29);
        wrong(three + "apart 1 1", 29);
        wrong(three + "apart 0 1 unless 0", 38);
        wrong(three + "apart 0 1 unless 1", 38);
        wrong(three + "apart 0 1 unless 3", 38);
        wrong(three + "apart 0 1 2", 31);
        wrong(three + "apart 0 1 unless", 37);
        wrong(three + "apart 0", 28);
        wrong(three + "with 3 0", 26);
        wrong(three + "with 2 2", 28);
        wrong(three + "with 2 10", 28);
        wrong(three + "with 2 1 unless 0", 30);
        wrong("apart 0 1;lame 5;lame 5", 6);
        wrong(Checks.ferryWith("lame 5"), "with 0 1", 7);
        RopeFerry by = Checks.ferryWith("lame 5");
        Checks.due("a BEING of an earlier text", Checks.river(by, "lame 6;with 0 1;with 1 0"), 2);
    }

    private static void firstWrongBytes() {
        wrong("person", 6);
        wrong("person  ", 8);
        wrong("person 5", 8);
        wrong("person swims", 7);
        wrong("person 10 5", 7);
        wrong("person 5 0", 9);
        wrong("person 5 100", 9);
        wrong("person 0005 5", 7);
        wrong("person 5 5 swim", 11);
        wrong("person 5 5 swims swims", 17);
        wrong("person 5 5 unless", 11);
        wrong("beast 5", 7);
        wrong("goods 5 5", 8);
        wrong("goods 5 swims", 8);
        wrong("lame 5 swims", 7);
        wrong("lame 0", 5);
        wrong("persons 5 5", 0);
        wrong("Person 5 5", 0);
        wrong("5 person", 0);
        wrong(" if", 1);
        wrong(";", 0);
        wrong(" ; boat 1", 1);
        wrong("boat 1;", 7);
        wrong("boat 1 ; ", 9);
        wrong("boat 1;;boat 1", 7);
        wrong("boat 1 boat 1", 7);
        wrong("boat 1,boat 1", 6);
        wrong("boat -1", 5);
        wrong("boat 1;rope 0", 12);
        wrong("boat 1\0", 6);
        wrong("goodsz 5", 0);
        wrong("boat 1;goods 5a", 14);
        // Where the next LINE begins too early.
        String[] begun = {"person", "person 5", "beast 5", "goods", "lame", "rope", "boat", "wide",
            "stream", "stream 5", "lame 1;apart", "lame 1;apart 0", "lame 1;lame 1;apart 0 1 unless",
            "lame 1;with", "lame 1;with 0"};
        for (String line : begun) {
            wrong(line + ";boat 1", line.length());
        }
    }

    private static String times(String line, int n) {
        StringBuilder text = new StringBuilder(line);
        for (int i = 1; i < n; i++) {
            text.append(';').append(line);
        }
        return text.toString();
    }

    private static void tooMany() {
        Checks.due("14 LINES", Checks.river(new RopeFerry(), times("boat 1", 14)), 1);
        wrong(times("boat 1", 15), 98);
        wrong(times("boat 1", 14) + ";  x", 100);
        wrong(times("boat 1", 14) + "; ", 99);
        wrong(TEN + ";goods 5", TEN.length() + 1);
        wrong(TEN + "; person 55", TEN.length() + 2);
        for (String first : new String[] {"person 1 1", "beast 1 1", "goods 1", "lame 1"}) {
            wrong(Checks.ferryWith(TEN), first, 0);
        }
        String two = "lame 1;lame 1";
        RopeFerry ferry = Checks.ferryWith(two, times("apart 0 1", 11), times("with 0 1", 12));
        Checks.due("a 12th apart", Checks.river(ferry, "apart 0 1"), 4);
        wrong(ferry, "apart 0 1", 0);
        wrong(ferry, "boat 1;with 0 1", 7);
        wrong(two + ";" + times("with 0 1", 12) + ";with 9 9", 14 + 108);
        Checks.due("other LINES still come", Checks.river(ferry, "lame 1;boat 3"), 5);
    }

    private static void longest() {
        String text = "boat 1" + " ".repeat(394);
        Checks.due("a text of 400", Checks.river(new RopeFerry(), text), 1);
        wrong(";".repeat(400), 0);
        wrong("boat 1" + " ".repeat(393) + ";", 400);
        wrong("boat 1" + " ".repeat(393) + "x", 399);
    }

    private static void tenTexts() {
        RopeFerry ferry = new RopeFerry();
        for (int n = 1; n <= 10; n++) {
            Checks.due("river " + n, Checks.river(ferry, "boat " + n), n);
        }
        wrong(ferry, "boat x", 5);
        Checks.tell(ferry, "boat 77");
        Checks.thrown("an 11th", UnsupportedOperationException.class, ferry::river);
        Checks.due("fault behind it", ferry.fault(), RopeFerry.NONE);
        Checks.due("the tape behind it", ferry.end(1), false);
        Checks.due("BOAT", ferry.count(7), 10);
        Checks.due("texts", ferry.count(1), 10);
    }

    private static void nothingStays() {
        RopeFerry ferry = Checks.ferryWith("person 5 60;goods 20;stream 3 4");
        java.util.List<Integer> before = Checks.answersOf(ferry);
        wrong(ferry, "rope 5;boat 5;wide 5;stream 0 5;lame 5;apart 0 1;with 1 0;x", 58);
        Checks.same("behind a wrong text", Checks.answersOf(ferry), before);
        Checks.due("fault stays", ferry.fault(), 58);
        Checks.river(ferry, "");
        Checks.due("fault behind a right text", ferry.fault(), RopeFerry.NONE);
    }
}
