/** Promise 5 (rule); what a RULE does is tested with the fair. */
public final class RuleTest {
    private static final String TWELVE = "1;2;3;4;5;6;7;8;9;10;11;12";

    public static void main(String[] args) {
        rightOnes();
        noLine();
        twelveLines();
        digits();
        words();
        blanks();
        cannotStandThere();
        moreMustCome();
        sixDeep();
        oneBehindAnother();
        longest();
        inPlaceOfTheOneBefore();
        nothingStays();
        usesUp();
        Checks.finish();
    }

    private static void right(String text, int lines) {
        RopeFerry ferry = new RopeFerry();
        Checks.due("rule '" + text + "'", Checks.rule(ferry, text), lines);
        Checks.due("LINES of '" + text + "'", ferry.count(9), lines);
        Checks.due("fault of '" + text + "'", ferry.fault(), RopeFerry.NONE);
    }

    private static void wrong(String text, int at) {
        RopeFerry ferry = new RopeFerry();
        Checks.wrongRule(ferry, text, at);
        Checks.due("LINES of '" + text + "'", ferry.count(9), RopeFerry.NONE);
    }

    /** "N [ if C ]. C: ALL { or ALL }; ALL: ATOM { and ATOM }" "SUM: PART { + PART }" */
    private static void rightOnes() {
        right("5if weight<3", 1);
        right("5 if waited+weight+queue+minute+999>0+1", 1);
        right("5 if(weight<3)or(weight>7)and not(queue>1)", 1);
        right("1 if 1<2 or 2<1 and 3>1 or not 1>1;2", 2);
    }

    /** "A text that is empty, or blanks alone, has no LINE, and is taken." */
    private static void noLine() {
        right("", 0);
        right(" ", 0);
        right(" ".repeat(400), 0);
    }

    /** "LINE { ; LINE }, at most 12" "of a LINE too many .. its first thing" */
    private static void twelveLines() {
        right(TWELVE, 12);
        right(TWELVE + " if 1<2", 12);
        wrong(TWELVE + ";13", 27);
        wrong(TWELVE + "; if", 28);
        wrong(TWELVE + ";;", 27);
        // Here more must come: the text's length.
        wrong(TWELVE + ";", 27);
        wrong(TWELVE + "; ", 28);
    }

    /** "All numbers are of 1 to 3 digits." "(a number of more digits" */
    private static void digits() {
        right("0", 1);
        right(" 999 ; 000 ", 2);
        right("1 if 000<999", 1);
        wrong("1000", 0);
        wrong("0000", 0);
        wrong("5 if weight<1000", 12);
        wrong("5 if weight+0001<1", 12);
        wrong("5;6;99999999999", 4);
    }

    /** "Words are as long as a to z go on" "a word that is none" */
    private static void words() {
        wrong("5 iff 1<2", 2);
        wrong("5 if weights<3", 5);
        wrong("5 if weigh<3", 5);
        wrong("5 if notweight<3", 5);
        wrong("5 if Weight<3", 5);
        wrong("5 if goods<3", 5);
        wrong("5 if 1<2 andnot 1<2", 9);
        right("5if 1<2and 1<2or not 1<2", 1);
    }

    /** "between all there may be blanks (32), also ahead and behind." */
    private static void blanks() {
        right("  5   if  (  weight  <  3  )  and  1  +  2  >  queue  ;  6  ", 2);
        right("5if(weight<3)and 1+2>queue;6", 2);
        wrong("5\t", 1);
        wrong("5 if 1\n<2", 6);
        wrong("\0005", 0);
        wrong("5\u00a0", 1);
    }

    /** "The first wrong byte: the begin of the first thing that cannot stand there" */
    private static void cannotStandThere() {
        wrong("if", 0);
        wrong("weight", 0);
        wrong("5 6", 2);
        wrong("5 weight<3", 2);
        wrong(";5", 0);
        wrong("5;;5", 2);
        wrong("5 if weight;6", 11);
        wrong("5 if weight<)", 12);
        wrong("5 if weight=3", 11);
        wrong("5 if weight<3<4", 13);
        wrong("5 if weight+<3", 12);
        wrong("5 if +weight<3", 5);
        wrong("5 if 2*weight<3", 6);
        wrong("5 if weight<3 weight<4", 14);
        wrong("5 if weight<3 or and", 17);
        wrong("5 if weight<3 and;", 17);
        wrong("5 if weight<3 not weight<4", 14);
        wrong("5 if not;5", 8);
        wrong("5 if (weight<3;5", 14);
        wrong("5 if weight<3)", 13);
        wrong("5 if ()", 6);
        wrong("5 if (weight)<3", 12);
        wrong("5 if (1+2)<3", 9);
        wrong("5 if not (weight<3))", 19);
        wrong("5 if weight<3 if weight<4", 14);
        wrong("5 if 6;person 5 5", 6);
    }

    /** "or the text's length, if more must come" */
    private static void moreMustCome() {
        wrong("5 if", 4);
        wrong("5 if  ", 6);
        wrong("5;", 2);
        wrong("5; ", 3);
        wrong("5 if weight", 11);
        wrong("5 if weight<", 12);
        wrong("5 if weight<3+", 14);
        wrong("5 if weight<3 or", 16);
        wrong("5 if weight<3 and ", 18);
        wrong("5 if not", 8);
        wrong("5 if (", 6);
        wrong("5 if (weight<3", 14);
        wrong("5 if ((weight<3)", 16);
    }

    /** "( and not within one another at most 6 deep" "the ( or not that is a 7th one deep" */
    private static void sixDeep() {
        right("5 if ((((((weight<3))))))", 1);
        wrong("5 if (((((((weight<3)))))))", 11);
        right("5 if not not not not not not weight<3", 1);
        wrong("5 if not not not not not not not weight<3", 29);
        right("5 if not(not(not(weight<3)))", 1);
        right("5 if (not(not(not weight<3)))", 1);
        wrong("5 if not(not(not(not weight<3)))", 17);
        wrong("5 if not(not(not((weight<3))))", 17);
        wrong("5 if (not(not(not(weight<3))))", 17);
        wrong("5 if 1<2 and((((((1<2 or(1<2)))))))", 24);
    }

    /** "( and not within one another": those one behind another do not count. */
    private static void oneBehindAnother() {
        right("5 if not 1<2 and not 1<2 and not 1<2 and not 1<2 and not 1<2 and not 1<2 and not 1<2",
                1);
        right("5 if (1<2)and(1<2)and(1<2)and(1<2)and(1<2)and(1<2)and(1<2)and((((((1<2))))))", 1);
        right("5 if ((((((1<2)or not 1<2)or not 1<2)or not 1<2)or not 1<2)or not 1<2)or not 1<2", 1);
        right("5 if not not not not not not 1<2;6 if not not not not not not 1<2", 2);
    }

    /** "if it would have more than 400": texts of just 400 are read to their end. */
    private static void longest() {
        StringBuilder text = new StringBuilder("1 if 1");
        while (text.length() < 398) {
            text.append("+1");
        }
        right(text + ">1", 1);
        wrong(text + ">+", 399);
        wrong(text + "+1", 400);
        wrong("(".repeat(400), 0);
        wrong("1 if " + "(".repeat(395), 11);
        wrong("1 if " + "not(".repeat(98), 17);
        wrong("1;".repeat(200), 24);
    }

    /** "RULE of loading (a text, in place of the one before)" */
    private static void inPlaceOfTheOneBefore() {
        RopeFerry ferry = new RopeFerry();
        Checks.rule(ferry, "1;2;3");
        Checks.rule(ferry, "4");
        Checks.due("LINES of the later one alone", ferry.count(9), 1);
        Checks.rule(ferry, "");
        Checks.due("also one without a LINE", ferry.count(9), 0);
        Checks.due("no text of THE RIVER", ferry.count(1), 0);
        for (int n = 0; n < 12; n++) {
            Checks.due("any number of RULES", Checks.rule(ferry, "1;2"), 2);
        }
    }

    /** "Of a wrong text nothing stays." */
    private static void nothingStays() {
        RopeFerry ferry = new RopeFerry();
        Checks.wrongRule(ferry, "1;x", 2);
        Checks.due("LINES without a RULE", ferry.count(9), RopeFerry.NONE);
        Checks.rule(ferry, "1 if weight<50;2;3");
        java.util.List<Integer> before = Checks.answersOf(ferry);
        int[] fairs = fairsOf(ferry);
        Checks.wrongRule(ferry, "9 if weight>50;7;8;9;x", 21);
        Checks.same("behind a wrong text", Checks.answersOf(ferry), before);
        Checks.due("the RULE before still rules", java.util.Arrays.equals(fairsOf(ferry), fairs), true);
        Checks.rule(ferry, "9 if weight>50;7");
        Checks.due("it does rule", java.util.Arrays.equals(fairsOf(ferry), fairs), false);
    }

    private static int[] fairsOf(RopeFerry ferry) {
        int[] answers = new int[18];
        for (int i = 0; i < answers.length; i++) {
            answers[i] = ferry.fair(i / 6, 200, 80, 9, i % 6);
        }
        return answers;
    }

    /** "Uses the TAPE up: RULE" */
    private static void usesUp() {
        RopeFerry ferry = new RopeFerry();
        Checks.rule(ferry, "1");
        Checks.due("behind a right text: end(1)", ferry.end(1), false);
        Checks.wrongRule(ferry, "x", 0);
        Checks.due("feed behind a wrong text", ferry.feed(1, 2, 3, 4, 5), 20);
    }
}
