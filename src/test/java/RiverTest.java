/** Promise 4 (river), and what the Terms tell of the texts of THE RIVER. */
public final class RiverTest {
    private static final String TEN = "person 1 1;person 2 2 swims;beast 3 3;beast 4 4 swims;goods 5;"
            + "lame 6;goods 7;lame 8;person 0 99;beast 9 10";
    private static final String THREE = "lame 5;lame 5;lame 5;";

    public static void main(String[] args) {
        beings();
        atBank0AsTheyCome();
        eleventhBeing();
        strengthAndWeight();
        whoSwims();
        measures();
        streams();
        streamsFromAnHourOn();
        thereByThen();
        noTwoTheSame();
        twelveAparts();
        twelveWiths();
        fourteenLines();
        fifteenLines();
        digits();
        words();
        blanks();
        noLine();
        Checks.finish();
    }

    private static void wrong(String text, int at) {
        Checks.wrongRiver(new RopeFerry(), text, at);
    }

    /** "BEINGS (at most 10, numbered from 0 on" "KIND 0 person, 1 beast, 2 goods, 3 lame" */
    private static void beings() {
        RopeFerry ferry = new RopeFerry();
        Checks.due("river", Checks.river(ferry, TEN), 1);
        int[][] due = {{0, 1, 1, 0}, {0, 2, 2, 1}, {1, 3, 3, 0}, {1, 4, 4, 1}, {2, 0, 5, 0},
            {3, 0, 6, 0}, {2, 0, 7, 0}, {3, 0, 8, 0}, {0, 0, 99, 0}, {1, 9, 10, 0}};
        for (int being = 0; being < 10; being++) {
            for (int what = 0; what < 4; what++) {
                Checks.due("look(" + being + ", " + what + ")", ferry.look(being, what),
                        due[being][what]);
            }
        }
        Checks.due("BEINGS", ferry.count(0), 10);
        RopeFerry more = Checks.ferryWith("lame 5", "goods 6;lame 7");
        Checks.due("numbered on in the next text", more.look(2, 2), 7);
    }

    /** "all at BANK 0 as they come" "TIRED (0 at first)" */
    private static void atBank0AsTheyCome() {
        RopeFerry ferry = Checks.ferryWith("person 9 5 swims;person 9 5;stream 0 0");
        Checks.due("BANK of the first", ferry.look(0, 6), 0);
        ferry.swim(0);
        ferry.cross(2, 1);
        Checks.due("all are over: BEINGS at BANK 1", ferry.count(4), 3);
        Checks.river(ferry, "person 9 5;lame 5");
        Checks.due("BEINGS at BANK 1", ferry.count(4), 3);
        Checks.due("BANK of who comes late", ferry.look(2, 6), 0);
        Checks.due("TIRED of who comes late", ferry.look(2, 4), 0);
        Checks.due("BALANCE of who comes late", ferry.look(3, 7), 0);
    }

    /** "BEINGS (at most 10" "of an 11th BEING .. its first thing" */
    private static void eleventhBeing() {
        wrong(TEN + ";goods 5", TEN.length() + 1);
        wrong(TEN + "; person 55", TEN.length() + 2);
        for (String first : new String[] {"person 1 1", "beast 1 1", "goods 1", "lame 1"}) {
            Checks.wrongRiver(Checks.ferryWith(TEN), first, 0);
        }
        RopeFerry nine = Checks.ferryWith(TEN.substring(0, TEN.lastIndexOf(';')));
        Checks.wrongRiver(nine, "lame 1;lame 1", 7);
        Checks.due("none of them stays", nine.count(0), 9);
        Checks.due("a 10th", Checks.river(nine, "lame 1"), 2);
        Checks.due("BEINGS", nine.count(0), 10);
        Checks.due("other LINES are taken", Checks.river(nine, "boat 3;apart 8 9;with 9 0"), 3);
    }

    /** "STRENGTH 0 to 9 (of goods and lame 0), WEIGHT 1 to 99" "or out of its bounds" */
    private static void strengthAndWeight() {
        for (String kind : new String[] {"person", "beast"}) {
            int behind = kind.length() + 1;
            RopeFerry ferry = Checks.ferryWith(kind + " 0 1;" + kind + " 9 99");
            Checks.due("STRENGTH 0", ferry.look(0, 1), 0);
            Checks.due("WEIGHT 1", ferry.look(0, 2), 1);
            Checks.due("STRENGTH 9", ferry.look(1, 1), 9);
            Checks.due("WEIGHT 99", ferry.look(1, 2), 99);
            wrong(kind + " 10 5", behind);
            wrong(kind + " 5 0", behind + 2);
            wrong(kind + " 5 100", behind + 2);
            wrong(kind + " 999 0", behind);
        }
        for (String kind : new String[] {"goods", "lame"}) {
            int behind = kind.length() + 1;
            RopeFerry ferry = Checks.ferryWith(kind + " 1;" + kind + " 99");
            Checks.due("STRENGTH of " + kind, ferry.look(0, 1), 0);
            Checks.due("WEIGHT 1", ferry.look(0, 2), 1);
            Checks.due("WEIGHT 99", ferry.look(1, 2), 99);
            wrong(kind + " 0", behind);
            wrong(kind + " 100", behind);
            wrong(kind + " 5 5", behind + 2);
        }
    }

    /** "one may SWIM or not" "person S W [ swims ] | beast S W [ swims ] | goods W | lame W" */
    private static void whoSwims() {
        RopeFerry ferry = Checks.ferryWith("person 1 1 swims;person 1 1;beast 1 1;beast 1 1 swims");
        for (int being = 0; being < 4; being++) {
            Checks.due("SWIMS of " + being, ferry.look(being, 3), being % 3 == 0 ? 1 : 0);
        }
        wrong("goods 5 swims", 8);
        wrong("lame 5 swims", 7);
        wrong("person swims", 7);
        wrong("person 5 5 swims swims", 17);
        wrong("beast 5 5 unless", 10);
    }

    /** "ROPE: what it bears, 1 to 999" "BOAT: WEIGHT of THE FERRY, 0 to 99" "WIDE 1 to 60" */
    private static void measures() {
        RopeFerry ferry = Checks.ferryWith("rope 1;boat 0;wide 1");
        Checks.due("ROPE", ferry.count(6), 1);
        Checks.due("BOAT", ferry.count(7), 0);
        Checks.due("WIDE", ferry.count(8), 1);
        Checks.due("river", Checks.river(ferry, "rope 998;boat 99;wide 60;rope 999"), 2);
        Checks.due("ROPE, told twice", ferry.count(6), 999);
        Checks.due("BOAT", ferry.count(7), 99);
        Checks.due("WIDE", ferry.count(8), 60);
        wrong("rope 0", 5);
        wrong("rope 1000", 5);
        wrong("boat 100", 5);
        wrong("boat -1", 5);
        wrong("wide 0", 5);
        wrong("wide 61", 5);
    }

    /** "STREAM 0 to 9 of each hour 0 to 23" "stream H N" */
    private static void streams() {
        RopeFerry ferry = Checks.ferryWith("stream 0 9");
        Checks.due("STREAM 9", ferry.count(5), 9);
        Checks.river(ferry, "stream 0 0");
        Checks.due("STREAM 0", ferry.count(5), 0);
        wrong("stream 0 10", 9);
        wrong("stream 24 1", 7);
        wrong("stream 23 10", 10);
        wrong("stream 23", 9);
        wrong("stream", 6);
    }

    /** "stream: of the hours H to 23." */
    private static void streamsFromAnHourOn() {
        RopeFerry ferry = Checks.ferryWith("stream 0 1;stream 5 9;stream 23 0");
        for (int hour = 0; hour < 48; hour++) {
            int due = hour % 24 < 5 ? 1 : hour % 24 < 23 ? 9 : 0;
            Checks.due("STREAM of hour " + hour, ferry.count(5), due);
            ferry.rest(59);
            Checks.due("STREAM at the end of hour " + hour, ferry.count(5), due);
            ferry.rest(1);
        }
        RopeFerry last = Checks.ferryWith("stream 23 7", "stream 22 6");
        Checks.due("STREAM of the hours before stays", last.count(5), 2);
        last.rest(600);
        last.rest(600);
        last.rest(180);
        Checks.due("hour 23 is told anew by 22", last.count(5), 6);
    }

    /** "A, B, D: a BEING that there is by then" "or that tells no BEING" */
    private static void thereByThen() {
        wrong(THREE + "apart 3 0", 27);
        wrong(THREE + "apart 0 3", 29);
        wrong(THREE + "apart 0 1 unless 3", 38);
        wrong(THREE + "with 3 0", 26);
        wrong(THREE + "with 2 10", 28);
        wrong("apart 0 1", 6);
        wrong("with 0 1", 5);
        wrong("apart 0 1;lame 5;lame 5", 6);
        wrong("lame 5;with 0 1;lame 5", 14);
        Checks.wrongRiver(Checks.ferryWith("lame 5"), "with 0 1", 7);
        Checks.wrongRiver(Checks.ferryWith(TEN), "with 9 10", 7);
        RopeFerry by = Checks.ferryWith("lame 5");
        Checks.due("a BEING of an earlier text", Checks.river(by, "lame 6;with 0 1;with 1 0"), 2);
        Checks.due("just the last", Checks.river(Checks.ferryWith(TEN), "apart 9 0 unless 8"), 2);
    }

    /** "no two the same (else the latter is wrong)" "or the same" */
    private static void noTwoTheSame() {
        wrong(THREE + "apart 1 1", 29);
        wrong(THREE + "apart 0 1 unless 0", 38);
        wrong(THREE + "apart 0 1 unless 1", 38);
        wrong(THREE + "with 2 2", 28);
        wrong(THREE + "apart 0 000", 29);
        RopeFerry ferry = Checks.ferryWith(THREE + "apart 0 1 unless 2;apart 2 0;with 0 2;with 0 1");
        Checks.due("the same in other LINES", Checks.river(ferry, "apart 0 1;with 0 2"), 2);
    }

    /** "(At most 12 apart" "a 13th apart or with, its first thing" */
    private static void twelveAparts() {
        String two = "lame 1;lame 1;";
        wrong(two + Checks.times("apart 0 1", 12) + ";boat 1", 14 + 120);
        RopeFerry ferry = Checks.ferryWith(two + Checks.times("apart 0 1", 11));
        Checks.wrongRiver(ferry, "apart 0 1; apart 9 9", 11);
        Checks.due("a 12th", Checks.river(ferry, "apart 0 1"), 2);
        Checks.wrongRiver(ferry, "apart 0 1", 0);
        Checks.wrongRiver(ferry, "boat 1;apart", 7);
        Checks.due("with is counted by itself", Checks.river(ferry, "with 0 1;boat 3"), 3);
    }

    /** "12 with.)" "a 13th apart or with, its first thing" */
    private static void twelveWiths() {
        RopeFerry ferry = Checks.ferryWith("lame 1;lame 1", Checks.times("with 0 1", 11));
        Checks.wrongRiver(ferry, "with 0 1; with 9 9", 10);
        Checks.due("a 12th", Checks.river(ferry, "with 1 0"), 3);
        Checks.wrongRiver(ferry, "with 0 1", 0);
        Checks.wrongRiver(ferry, "boat 1;with", 7);
        Checks.due("apart is counted by itself", Checks.river(ferry, "apart 0 1;boat 3"), 4);
    }

    /** "LINE { ; LINE }, at most 14" */
    private static void fourteenLines() {
        RopeFerry ferry = new RopeFerry();
        Checks.due("14 LINES", Checks.river(ferry, Checks.times("wide 2", 13) + ";boat 7"), 1);
        Checks.due("the 14th holds: BOAT", ferry.count(7), 7);
        Checks.due("14 more", Checks.river(ferry, Checks.times("boat 1", 14)), 2);
    }

    /** "of a LINE too many .. its first thing" "or the text's length, if more must come" */
    private static void fifteenLines() {
        wrong(Checks.times("boat 1", 15), 98);
        wrong(Checks.times("boat 1", 14) + ";  x", 100);
        wrong(Checks.times("boat 1", 14) + ";;", 98);
        wrong(Checks.times("boat 1", 14) + "; ", 99);
        wrong(Checks.times("boat 1", 14) + " boat 1", 98);
        wrong(Checks.times("boat 1", 13) + ";boat 100;boat 1", 96);
    }

    /** "All numbers are of 1 to 3 digits." "(a number of more digits" */
    private static void digits() {
        RopeFerry ferry = Checks.ferryWith("person 009 007;lame 01;boat 000;apart 001 000");
        Checks.due("STRENGTH 009", ferry.look(0, 1), 9);
        Checks.due("WEIGHT 007", ferry.look(0, 2), 7);
        Checks.due("WEIGHT 01", ferry.look(1, 2), 1);
        Checks.due("BOAT 000", ferry.count(7), 0);
        Checks.due("apart 001 000", ferry.may(3), false);
        wrong("person 0009 5", 7);
        wrong("boat 0001", 5);
        wrong("rope 99999999999", 5);
        wrong("lame 5;lame 5;apart 0000 1", 20);
        wrong("boat 00 1", 8);
    }

    /** "Words are as long as a to z go on" "a word that is none" */
    private static void words() {
        wrong("persons 5 5", 0);
        wrong("perso 5 5", 0);
        wrong("goodsz 5", 0);
        wrong("goodslame 5", 0);
        wrong("Person 5 5", 0);
        wrong("pErson 5 5", 0);
        wrong("person 5 5 swim", 11);
        wrong("lame 5;lame 5;lame 5;apart 0 1 unles 2", 31);
        wrong(" if", 1);
        wrong("boat 1 boat 1", 7);
        Checks.due("words by digits alone", Checks.river(new RopeFerry(), "person5 60swims;wide3"), 1);
    }

    /** "between all there may be blanks (32), also ahead and behind." */
    private static void blanks() {
        RopeFerry ferry = new RopeFerry();
        String text = "  person  5   60 swims ;  lame   007  ; boat  3 ;lame 1;apart 0 1   unless 2  ";
        Checks.due("many blanks", Checks.river(ferry, text), 1);
        Checks.due("SWIMS", ferry.look(0, 3), 1);
        Checks.due("WEIGHT", ferry.look(1, 2), 7);
        Checks.due("no blanks", Checks.river(ferry, "person5 60swims;wide3;apart1 0unless2"), 2);
        Checks.due("WIDE", ferry.count(8), 3);
        wrong("per son 5 5", 0);
        wrong("boat 1 2", 7);
        for (char other : new char[] {9, 10, 13, 0, 31, 33, 160, 255}) {
            wrong("wide" + other + "5", 4);
            wrong("wide 5" + other, 6);
            wrong(other + "wide 5", 0);
        }
    }

    /** "A text that is empty, or blanks alone, has no LINE, and is taken." */
    private static void noLine() {
        RopeFerry ferry = new RopeFerry();
        Checks.due("an empty text", ferry.river(), 1);
        Checks.due("a blank text", Checks.river(ferry, " "), 2);
        Checks.due("400 blanks", Checks.river(ferry, " ".repeat(400)), 3);
        Checks.due("texts of THE RIVER", ferry.count(1), 3);
        Checks.due("BEINGS", ferry.count(0), 0);
    }
}
