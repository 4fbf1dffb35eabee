/** Promise 19 (fair). */
public final class FairTest {
    public static void main(String[] args) {
        wrongOnes();
        nobodyComes();
        oneTrip();
        ropeAndForce();
        goesHome();
        rules();
        byStreamOfNow();
        nothingStays();
        Checks.finish();
    }

    private static void wrong(int minutes, int chance, int force, int what) {
        RopeFerry ferry = new RopeFerry();
        Checks.thrown("fair(1, " + minutes + ", " + chance + ", " + force + ", " + what + ")",
                IllegalArgumentException.class, () -> ferry.fair(1, minutes, chance, force, what));
    }

    private static void wrongOnes() {
        wrong(-1, 50, 9, 0);
        wrong(601, 50, 9, 0);
        wrong(5, -1, 9, 0);
        wrong(5, 101, 9, 0);
        wrong(5, 50, 0, 0);
        wrong(5, 50, 100, 0);
        wrong(5, 50, -9, 7);
        wrong(Integer.MIN_VALUE, 50, 9, 0);
        RopeFerry ferry = new RopeFerry();
        for (int what : new int[] {-1, 6, Integer.MIN_VALUE, Integer.MAX_VALUE}) {
            Checks.thrown("fair what " + what, java.util.NoSuchElementException.class,
                    () -> ferry.fair(1, 5, 50, 9, what));
        }
    }

    private static void fair(RopeFerry ferry, int[] told, int... due) {
        for (int what = 0; what < due.length; what++) {
            Checks.due("fair(" + java.util.Arrays.toString(told) + ", " + what + ")",
                    ferry.fair(told[0], told[1], told[2], told[3], what), due[what]);
        }
    }

    private static void nobodyComes() {
        RopeFerry ferry = new RopeFerry();
        fair(ferry, new int[] {1, 600, 0, 99}, 0, 0, 0, 0, 0, 0);
        fair(ferry, new int[] {1, 0, 100, 99}, 0, 0, 0, 0, 0, 0);
        fair(ferry, new int[] {1, 600, 100, 1}, 0, 40, 560, 0, 0, 0);
        fair(ferry, new int[] {1, 600, 100, 2}, 0, 40, 560, 0, 0, 0);
    }

    /** The weights that come by a seed, by the document's own words. */
    private static int[] weightsBy(int seed, int many) {
        int[] weights = new int[many];
        int s = seed;
        for (int i = 0; i < many; i++) {
            s = 1103515245 * s + 12345;
            s = 1103515245 * s + 12345;
            weights[i] = 10 * ((s >>> 16) % 32768 % 9 + 1);
        }
        return weights;
    }

    private static void oneTrip() {
        RopeFerry ferry = Checks.ferryWith("wide 1;stream 0 0;boat 0;rope 999");
        // There and back are one minute each at FORCE 99: it is back two minutes later.
        fair(ferry, new int[] {5, 1, 100, 99}, 1, 0, 0, 0, 0, 1);
        fair(ferry, new int[] {5, 2, 100, 99}, 1, 1, 0, 0, 0, 1);
        fair(ferry, new int[] {5, 3, 100, 99}, 3, 0, 0, 1, 1, 2);
        fair(ferry, new int[] {5, 6, 100, 99}, 5, 1, 0, 1, 2, 3);
        fair(ferry, new int[] {5, 7, 100, 99}, 7, 0, 0, 1, 3, 4);
        Checks.river(ferry, "wide 60;stream 0 9;boat 99");
        // NEED of none is 14: back takes 60 times 14 by 99, 9 minutes; there NEED is more.
        int there = (60 * (9 + (99 + weightsBy(5, 1)[0] + 19) / 20) + 98) / 99;
        fair(ferry, new int[] {5, there + 9, 100, 99}, 1, there + 8, 0, 0, 0, 1);
        int went = ferry.fair(5, there + 10, 100, 99, 0);
        Checks.due("it comes back, waits and goes at once", went > 1, true);
        Checks.due("two trips", ferry.fair(5, there + 10, 100, 99, 5), 2);
    }

    private static void ropeAndForce() {
        int[] weights = weightsBy(8, 3);
        RopeFerry ferry = Checks.ferryWith("wide 1;stream 0 3;boat 7;rope " + (weights[0] + 6));
        fair(ferry, new int[] {8, 1, 100, 99}, 0, 1, 0, 0, 0, 0);
        Checks.river(ferry, "rope " + (weights[0] + 7));
        fair(ferry, new int[] {8, 1, 100, 99}, 1, 0, 0, 0, 0, 1);
        int need = 3 + (weights[0] + 7 + 19) / 20;
        fair(ferry, new int[] {8, 1, 100, need - 1}, 0, 1, 0, 0, 0, 0);
        fair(ferry, new int[] {8, 1, 100, need}, 1, 0, 0, 0, 0, 1);
    }

    private static void goesHome() {
        RopeFerry ferry = Checks.ferryWith("rope 1");
        fair(ferry, new int[] {3, 39, 100, 99}, 0, 39, 0, 0, 0, 0);
        fair(ferry, new int[] {3, 40, 100, 99}, 0, 40, 0, 0, 0, 0);
        fair(ferry, new int[] {3, 43, 100, 99}, 0, 40, 3, 0, 0, 0);
        int home = ferry.fair(3, 600, 50, 99, 2);
        Checks.due("a chance of 50", home > 200 && home < 320, true);
        int s = 3;
        int come = 0;
        for (int minute = 0; minute < 600; minute++) {
            s = 1103515245 * s + 12345;
            if ((s >>> 16) % 32768 % 100 < 50) {
                come++;
                s = 1103515245 * s + 12345;
            }
        }
        Checks.due("the WEIGHT is drawn all the same", home, come - 40);
    }

    /** Only one fits at a time: the rule tells who. The model tells what is due. */
    private static void rules() {
        String[] rules = {"", "5", "9 if weight>50", "9 if weight<50;8 if waited>9", "1 if not weight<60",
            "7 if waited+weight>60 and queue<9;6 if waited>30 or minute<20",
            "3 if minute>30 and(weight<30 or weight>70);2 if 10<queue",
            "999 if waited>5;998 if weight+weight>minute;997 if queue>waited"};
        int differ = 0;
        int before = -1;
        for (String rule : rules) {
            RopeFerry ferry = Checks.ferryWith("rope 120;boat 10;wide 12;stream 0 1");
            Model model = new Model();
            model.tape.append("rope 120;boat 10;wide 12;stream 0 1");
            model.river();
            Checks.due("rule", Checks.rule(ferry, rule), rule.isEmpty() ? 0 : rule.split(";").length);
            model.tape.append(rule);
            model.rule();
            for (int what = 0; what < 6; what++) {
                for (int chance = 10; chance <= 100; chance += 18) {
                    Checks.due("fair by '" + rule + "', " + what + ", " + chance,
                            ferry.fair(99, 200, chance, 12, what),
                            model.fair(99, 200, chance, 12, what));
                }
            }
            int together = ferry.fair(99, 200, 46, 12, 4);
            differ += together != before ? 1 : 0;
            before = together;
        }
        Checks.due("rules differ", differ >= 5, true);
    }

    private static void byStreamOfNow() {
        RopeFerry ferry = Checks.ferryWith("stream 0 9;stream 1 0;boat 0;wide 5");
        fair(ferry, new int[] {4, 500, 100, 8}, 0, 40, 460, 0, 0, 0);
        ferry.rest(60);
        Checks.due("by STREAM of the hour of now", ferry.fair(4, 1, 100, 8, 0), 1);
        RopeFerry far = Checks.ferryWith("person 9 5 swims;person 9 5 swims;stream 0 0;boat 0;wide 5");
        int before = far.fair(4, 500, 50, 8, 0);
        far.swim(0);
        far.cross(2, 1);
        Checks.due("a fair is held whatever BANK THE FERRY is at", far.fair(4, 500, 50, 8, 0), before);
    }

    private static void nothingStays() {
        RopeFerry ferry = Checks.ferryWith("person 5 5;boat 3");
        java.util.List<Integer> before = Checks.answersOf(ferry);
        ferry.fair(1, 600, 70, 50, 0);
        Checks.same("behind a fair", Checks.answersOf(ferry), before);
        ferry.feed(1, 2, 3, 4, 5);
        ferry.fair(1, 600, 70, 50, 0);
        Checks.due("the tape stays: end(20)", ferry.end(20), true);
    }
}
