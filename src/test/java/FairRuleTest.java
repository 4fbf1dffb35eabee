/** Promises 5 (rule) and 19 (fair): who goes on by RULE. */
public final class FairRuleTest {
    private static final int FIRST = 1;
    private static final int SECOND = 0;

    public static void main(String[] args) {
        withoutARule();
        firstLineThatHolds();
        greatestNumber();
        whoCameFirst();
        lessAndMore();
        waited();
        weight();
        queue();
        minute();
        sums();
        andAheadOfOr();
        notOfAnAtom();
        deepOnes();
        passedOver();
        asTheModelSays();
        Checks.finish();
    }

    private static RopeFerry river() {
        return Checks.ferryWith("wide 1;stream 0 0;boat 0;rope 90");
    }

    /** One of 10 goes at 0. At 2 there wait one of 60, since 1, and one of 50, since 2. */
    private static int seed() {
        int seed = 0;
        while (!comes(seed)) {
            seed++;
        }
        return seed;
    }

    private static boolean comes(int seed) {
        int s = seed;
        for (int due : new int[] {10, 60, 50}) {
            s = 1103515245 * s + 12345;
            s = 1103515245 * s + 12345;
            if (10 * ((s >>> 16) % 32768 % 9 + 1) != due) {
                return false;
            }
        }
        return true;
    }

    /** ROPE bears one of the two: if the first goes, it WAITED a minute. */
    private static void goes(RopeFerry ferry, String rule, int due) {
        Checks.rule(ferry, rule);
        int seed = seed();
        Checks.due("by '" + rule + "' one goes", ferry.fair(seed, 3, 100, 99, 0), 2);
        Checks.due("by '" + rule + "' one waits", ferry.fair(seed, 3, 100, 99, 1), 1);
        Checks.due("by '" + rule + "' who goes WAITED", ferry.fair(seed, 3, 100, 99, 4), due);
    }

    private static void goes(String rule, int due) {
        goes(river(), rule, due);
    }

    /** "(0 without)": by no LINE, and without any RULE. */
    private static void withoutARule() {
        Checks.due("without a RULE the first goes", river().fair(seed(), 3, 100, 99, 4), FIRST);
        goes("", FIRST);
        goes("9 if 1<1", FIRST);
        goes("9 if weight<55", SECOND);
        goes("0 if weight<55", FIRST);
        goes("1 if weight<55", SECOND);
    }

    /** "each has a number by the first LINE of RULE that holds" */
    private static void firstLineThatHolds() {
        goes("0 if weight>0;9 if weight<55", FIRST);
        goes("0;9 if weight<55", FIRST);
        goes("0 if weight>55;9", SECOND);
        goes("9 if weight<55;8", SECOND);
        goes("1 if weight<20;1 if weight<30;1 if weight<40;1 if weight<50;1 if 2<1;1 if 2<1;1 if 2<1;"
                + "1 if 2<1;1 if 2<1;1 if 2<1;1 if 2<1;9 if weight<55", SECOND);
    }

    /** "By the greatest number" "All numbers are of 1 to 3 digits." */
    private static void greatestNumber() {
        goes("999 if weight<55;998", SECOND);
        goes("998 if weight<55;999", FIRST);
        goes("010 if weight<55;9", SECOND);
        goes("009 if weight<55;10", FIRST);
    }

    /** "By the greatest number, then by who came first" */
    private static void whoCameFirst() {
        goes("5", FIRST);
        goes("7 if weight<55;7", FIRST);
        goes("999 if waited<9", FIRST);
    }

    /** "SUM < SUM | SUM > SUM": neither holds of what is the same. */
    private static void lessAndMore() {
        goes("9 if weight<50", FIRST);
        goes("9 if weight<51", SECOND);
        goes("9 if 50>weight", FIRST);
        goes("9 if 51>weight", SECOND);
        goes("9 if not weight>50", SECOND);
        goes("9 if 50<50 or 50>50;0 if weight<55;1", FIRST);
        goes("0 if weight>59;9", SECOND);
        goes("0 if weight>60;9", FIRST);
    }

    /** "waited: minutes since that one came" */
    private static void waited() {
        goes("9 if waited<1", SECOND);
        goes("9 if waited<2;8", FIRST);
        goes("0 if waited>0;9", SECOND);
        goes("0 if waited>1;9", FIRST);
    }

    /** "weight": of WEIGHT 10 to 90. */
    private static void weight() {
        goes("9 if weight<60 and weight>49", SECOND);
        goes("9 if weight<60 and weight>50", FIRST);
        goes("0 if 59<weight;9", SECOND);
    }

    /** "queue: how many wait": also the one that is asked about. */
    private static void queue() {
        goes("9 if queue>1 and weight<55", SECOND);
        goes("9 if queue>2 and weight<55", FIRST);
        goes("9 if queue<3 and weight<55", SECOND);
        goes("9 if queue<2 and weight<55", FIRST);
    }

    /** "minute: of the FAIR", whatever the CLOCK. */
    private static void minute() {
        for (int rest : new int[] {1, 100, 600}) {
            RopeFerry ferry = river();
            ferry.rest(rest);
            goes(ferry, "9 if minute>1 and weight<55", SECOND);
            goes(ferry, "9 if minute>2 and weight<55", FIRST);
            goes(ferry, "9 if minute<3 and weight<55", SECOND);
        }
    }

    /** "SUM: PART { + PART }; PART: NUMBER | waited | weight | queue | minute" */
    private static void sums() {
        goes("9 if weight+10<61", SECOND);
        goes("9 if weight+10+1<61", FIRST);
        goes("9 if weight+waited+queue+minute+100<155", SECOND);
        goes("9 if weight+waited+queue+minute+100<154", FIRST);
        goes("9 if 999+999+50>999+999+weight", FIRST);
        goes("9 if 999+999+51>999+999+weight", SECOND);
    }

    /** "C: ALL { or ALL }; ALL: ATOM { and ATOM }" */
    private static void andAheadOfOr() {
        goes("9 if weight<55 or weight>55 and weight>100", SECOND);
        goes("9 if (weight<55 or weight>55) and weight>100", FIRST);
        goes("9 if weight>100 and weight>55 or weight<55", SECOND);
        goes("9 if 2<1 or 2<1 or weight<55", SECOND);
        goes("9 if 1<2 and 1<2 and weight<55", SECOND);
        goes("9 if 1<2 and 2<1 and weight<55", FIRST);
    }

    /** "not ATOM": it does not reach behind the atom. */
    private static void notOfAnAtom() {
        goes("9 if not weight>55 and weight<55", SECOND);
        goes("9 if not(weight>55 and weight<55)", FIRST);
        goes("9 if not not weight<55", SECOND);
        goes("0 if not weight<55;9", SECOND);
        goes("9 if not 1<2 or weight<55", SECOND);
    }

    /** "( and not within one another at most 6 deep": six deep they hold as told. */
    private static void deepOnes() {
        goes("9 if ((((((weight<55))))))", SECOND);
        goes("9 if not not not not not not weight<55", SECOND);
        goes("0 if not(not(not weight<55));9", SECOND);
        goes("9 if 2<1 or(2<1 or(2<1 or(2<1 or(2<1 or(2<1 or(weight<55))))))", SECOND);
        goes("9 if 1<2 and(1<2 and(1<2 and(1<2 and(1<2 and(1<2 and(weight<55))))))", SECOND);
    }

    /** "each goes on that with all before still is not above ROPE": by its turn, not by coming. */
    private static void passedOver() {
        RopeFerry ferry = river();
        Checks.river(ferry, "rope 59");
        // 60 is asked first, and passed over.
        goes(ferry, "9 if weight>55", SECOND);
        goes(ferry, "5", SECOND);
        Checks.river(ferry, "rope 110");
        Checks.due("both go", ferry.fair(seed(), 3, 100, 99, 0), 3);
    }

    /** "A FAIR by a SEED": whole ones, by the model that tells the document once more. */
    private static void asTheModelSays() {
        String[] rules = {"", "5", "9 if weight>50", "9 if weight<50;8 if waited>9",
            "1 if not weight<60", "7 if waited+weight>60 and queue<9;6 if waited>30 or minute<20",
            "3 if minute>30 and(weight<30 or weight>70);2 if 10<queue",
            "999 if waited>5;998 if weight+weight>minute;997 if queue>waited"};
        String river = "rope 120;boat 10;wide 12;stream 0 1";
        for (String rule : rules) {
            RopeFerry ferry = Checks.ferryWith(river);
            Checks.rule(ferry, rule);
            Model model = new Model();
            model.tape.append(river);
            model.river();
            model.tape.append(rule);
            model.rule();
            for (int what = 0; what < 6; what++) {
                for (int chance = 10; chance <= 100; chance += 18) {
                    Checks.due("fair by '" + rule + "', " + what + ", " + chance,
                            ferry.fair(99, 200, chance, 12, what),
                            model.fair(99, 200, chance, 12, what));
                }
            }
        }
    }
}
