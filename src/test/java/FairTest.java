/** Promise 19 (fair). */
public final class FairTest {
    /** A trip takes two minutes by FORCE 99: THE FERRY goes at 0, 2, 4 and so on. */
    private static final String QUICK = "wide 1;stream 0 0;boat 0;rope ";

    public static void main(String[] args) {
        minutesOfNone();
        chanceOfNone();
        forceOfNone();
        fairOfAnother();
        noMinutes();
        noChance();
        everyMinute();
        belowTheChance();
        draws();
        weights();
        fortyWait();
        drawnAllTheSame();
        backAndGone();
        minutesThereAndBack();
        oneMinuteAtLeast();
        ropeWithTheBoat();
        needAndForce();
        withAllBefore();
        ifNoneDoes();
        waited();
        streamOfNow();
        whereverTheFerryIs();
        nothingStays();
        Checks.finish();
    }

    private static void fair(RopeFerry ferry, int[] told, int... due) {
        for (int what = 0; what < due.length; what++) {
            Checks.due("fair(" + java.util.Arrays.toString(told) + ", " + what + ")",
                    ferry.fair(told[0], told[1], told[2], told[3], what), due[what]);
        }
    }

    private static void wrong(int minutes, int chance, int force) {
        RopeFerry ferry = Checks.ferryWith("person 5 5");
        for (int what : new int[] {0, 5, 6, -1}) {
            Checks.refused(ferry,
                    "fair(1, " + minutes + ", " + chance + ", " + force + ", " + what + ")",
                    IllegalArgumentException.class,
                    () -> ferry.fair(1, minutes, chance, force, what));
        }
    }

    /** "so many minutes (0 to 600)" "IllegalArgumentException: minutes, chance or FORCE are none" */
    private static void minutesOfNone() {
        for (int minutes : new int[] {-1, 601, Integer.MIN_VALUE, Integer.MAX_VALUE}) {
            wrong(minutes, 50, 9);
        }
    }

    /** "a chance (0 to 100)" "IllegalArgumentException: minutes, chance or FORCE are none" */
    private static void chanceOfNone() {
        for (int chance : new int[] {-1, 101, Integer.MIN_VALUE, Integer.MAX_VALUE}) {
            wrong(5, chance, 9);
        }
    }

    /** "PULLERS of a FORCE (1 to 99)" "IllegalArgumentException: minutes, chance or FORCE are none" */
    private static void forceOfNone() {
        for (int force : new int[] {0, -1, 100, Integer.MIN_VALUE, Integer.MAX_VALUE}) {
            wrong(5, 50, force);
        }
    }

    /** "NoSuchElementException: another what." */
    private static void fairOfAnother() {
        RopeFerry ferry = Checks.ferryWith("person 5 5");
        for (int what : new int[] {-1, 6, 7, Integer.MIN_VALUE, Integer.MAX_VALUE}) {
            Checks.refused(ferry, "fair what " + what, java.util.NoSuchElementException.class,
                    () -> ferry.fair(1, 5, 50, 9, what));
            Checks.thrown("fair of no minutes, what " + what, java.util.NoSuchElementException.class,
                    () -> ferry.fair(1, 0, 0, 1, what));
        }
    }

    /** "so many minutes (0 to 600)": none at all. */
    private static void noMinutes() {
        fair(new RopeFerry(), new int[] {1, 0, 100, 99}, 0, 0, 0, 0, 0, 0);
    }

    /** "a chance (0 to 100)": never and always; "PULLERS of a FORCE (1 to 99)": the least. */
    private static void noChance() {
        fair(new RopeFerry(), new int[] {1, 600, 0, 99}, 0, 0, 0, 0, 0, 0);
        fair(new RopeFerry(), new int[] {1, 600, 100, 1}, 0, 40, 560, 0, 0, 0);
    }

    /** "each minute, from 0 on" */
    private static void everyMinute() {
        RopeFerry ferry = Checks.ferryWith("rope 1");
        for (int minutes : new int[] {1, 2, 3, 39}) {
            fair(ferry, new int[] {3, minutes, 100, 99}, 0, minutes, 0, 0, 0, 0);
        }
        RopeFerry quick = Checks.ferryWith(QUICK + 999);
        fair(quick, new int[] {5, 1, 100, 99}, 1, 0, 0, 0, 0, 1);
    }

    /** The draws of a seed, by other numbers than the program's: it goes round by a remainder. */
    private static final class Draws {
        private java.math.BigInteger seed;

        Draws(int seed) {
            this.seed = java.math.BigInteger.valueOf(seed);
        }

        int next() {
            seed = seed.multiply(java.math.BigInteger.valueOf(1103515245))
                    .add(java.math.BigInteger.valueOf(12345))
                    .mod(java.math.BigInteger.ONE.shiftLeft(32));
            return seed.shiftRight(16).intValue() % 32768;
        }
    }

    /** "one modulo 100: below the chance: one comes" */
    private static void belowTheChance() {
        RopeFerry ferry = Checks.ferryWith("rope 1");
        for (int seed = 0; seed < 40; seed++) {
            int drawn = new Draws(seed).next() % 100;
            fair(ferry, new int[] {seed, 1, drawn, 99}, 0, 0, 0, 0, 0, 0);
            fair(ferry, new int[] {seed, 1, drawn + 1, 99}, 0, 1, 0, 0, 0, 0);
        }
    }

    private static int comersOf(int seed, int minutes, int chance) {
        Draws draws = new Draws(seed);
        int come = 0;
        for (int minute = 0; minute < minutes; minute++) {
            if (draws.next() % 100 < chance) {
                come++;
                draws.next();
            }
        }
        return come;
    }

    /** "SEED is 1103515245 times SEED and 12345, as an int that goes round; bits 16 to 30" */
    private static void draws() {
        RopeFerry ferry = Checks.ferryWith("rope 1");
        for (int seed : new int[] {0, 1, -1, 65535, 65536, 1 << 30, Integer.MAX_VALUE,
            Integer.MIN_VALUE, Integer.MIN_VALUE + 1, 1103515245, -12345}) {
            for (int chance : new int[] {1, 30, 50, 99}) {
                int come = comersOf(seed, 600, chance);
                Checks.due("all that come by " + seed + " and " + chance,
                        ferry.fair(seed, 600, chance, 99, 1) + ferry.fair(seed, 600, chance, 99, 2),
                        come);
            }
        }
    }

    private static int[] weightsBy(int seed, int many) {
        Draws draws = new Draws(seed);
        int[] weights = new int[many];
        for (int i = 0; i < many; i++) {
            draws.next();
            weights[i] = 10 * (draws.next() % 9 + 1);
        }
        return weights;
    }

    /** A seed by which those of these WEIGHTS come first, if one comes each minute. */
    private static int seedOf(int... weights) {
        int seed = 0;
        while (!java.util.Arrays.equals(weightsBy(seed, weights.length), weights)) {
            seed++;
        }
        return seed;
    }

    /** "of WEIGHT 10 times (one modulo 9, and 1)": 10 to 90. */
    private static void weights() {
        for (int weight = 10; weight <= 90; weight += 10) {
            int[] told = {seedOf(weight), 1, 100, 99};
            fair(Checks.ferryWith(QUICK + weight), told, 1, 0, 0, 0, 0, 1);
            fair(Checks.ferryWith(QUICK + (weight - 1)), told, 0, 1, 0, 0, 0, 0);
        }
    }

    /** "(at most 40 wait; else that one goes home" */
    private static void fortyWait() {
        RopeFerry ferry = Checks.ferryWith("rope 1");
        fair(ferry, new int[] {3, 39, 100, 99}, 0, 39, 0, 0, 0, 0);
        fair(ferry, new int[] {3, 40, 100, 99}, 0, 40, 0, 0, 0, 0);
        fair(ferry, new int[] {3, 41, 100, 99}, 0, 40, 1, 0, 0, 0);
        fair(ferry, new int[] {3, 600, 100, 99}, 0, 40, 560, 0, 0, 0);
    }

    /** "the WEIGHT drawn all the same)" */
    private static void drawnAllTheSame() {
        RopeFerry ferry = Checks.ferryWith("rope 1");
        for (int seed = 0; seed < 9; seed++) {
            int come = comersOf(seed, 600, 50);
            Checks.due("more than 40 come", come > 100, true);
            Checks.due("how many go home", ferry.fair(seed, 600, 50, 99, 2), come - 40);
        }
    }

    /** "(a) if THE FERRY comes back now, it waits at BANK 0": it goes in the same minute. */
    private static void backAndGone() {
        RopeFerry ferry = Checks.ferryWith(QUICK + 999);
        fair(ferry, new int[] {5, 1, 100, 99}, 1, 0, 0, 0, 0, 1);
        fair(ferry, new int[] {5, 2, 100, 99}, 1, 1, 0, 0, 0, 1);
        fair(ferry, new int[] {5, 3, 100, 99}, 3, 0, 0, 1, 1, 2);
        fair(ferry, new int[] {5, 4, 100, 99}, 3, 1, 0, 1, 1, 2);
        fair(ferry, new int[] {5, 6, 100, 99}, 5, 1, 0, 1, 2, 3);
        fair(ferry, new int[] {5, 7, 100, 99}, 7, 0, 0, 1, 3, 4);
    }

    /** "comes back after the MINUTES there and those back with none (by NEED of none" */
    private static void minutesThereAndBack() {
        RopeFerry ferry = Checks.ferryWith("wide 60;stream 0 9;boat 99;rope 999");
        // There NEED is 9 and 189 by 20: 19, so 60 times 19 by 99: 12. Back it is 14: 9.
        int seed = seedOf(90);
        fair(ferry, new int[] {seed, 12 + 9, 100, 99}, 1, 20, 0, 0, 0, 1);
        Checks.due("trips as it is back", ferry.fair(seed, 12 + 9 + 1, 100, 99, 5), 2);
        // There 110 by 20: 6, 60 times 6 by 10: 36. Back 20 by 20: 1, 60 by 10: 6.
        RopeFerry light = Checks.ferryWith("wide 60;stream 0 0;boat 20;rope 999");
        fair(light, new int[] {seed, 36 + 6, 100, 10}, 1, 40, 1, 0, 0, 1);
        Checks.due("trips as it is back", light.fair(seed, 36 + 6 + 1, 100, 10, 5), 2);
        // There 111 by 20: 6, too. Back 21 by 20: 2, 12 minutes.
        Checks.river(light, "boat 21");
        fair(light, new int[] {seed, 36 + 12, 100, 10}, 1, 40, 7, 0, 0, 1);
        Checks.due("trips as it is back", light.fair(seed, 36 + 12 + 1, 100, 10, 5), 2);
        // There 9 and 109 by 20: 15, 60 times 15 by 50: 18. Back 60 times 14 by 50: 17.
        seed = seedOf(10);
        fair(ferry, new int[] {seed, 18 + 17, 100, 50}, 1, 34, 0, 0, 0, 1);
        Checks.due("trips as it is back", ferry.fair(seed, 18 + 17 + 1, 100, 50, 5), 2);
    }

    /** "MINUTES 1 at least)": back, where NEED of none is 0. */
    private static void oneMinuteAtLeast() {
        RopeFerry ferry = Checks.ferryWith("wide 60;stream 0 0;boat 0;rope 999");
        Checks.due("need(0)", ferry.need(0), 0);
        // There NEED is 5: 60 times 5 by 99 is 4.
        int seed = seedOf(90);
        fair(ferry, new int[] {seed, 4 + 1, 100, 99}, 1, 4, 0, 0, 0, 1);
        Checks.due("trips as it is back", ferry.fair(seed, 4 + 1 + 1, 100, 99, 5), 2);
        // By FORCE 5 there it is 60; NEED of 1 would be 12 back.
        fair(ferry, new int[] {seed, 60 + 1, 100, 5}, 1, 40, 20, 0, 0, 1);
        Checks.due("trips as it is back", ferry.fair(seed, 60 + 1 + 1, 100, 5, 5), 2);
    }

    /** "each goes on that with all before still is not above ROPE (BOAT, too)" */
    private static void ropeWithTheBoat() {
        int[] told = {seedOf(70), 1, 100, 99};
        fair(Checks.ferryWith("boat 7;rope 77"), told, 1, 0, 0, 0, 0, 1);
        fair(Checks.ferryWith("boat 7;rope 76"), told, 0, 1, 0, 0, 0, 0);
        fair(Checks.ferryWith("boat 99;rope 20"), told, 0, 1, 0, 0, 0, 0);
    }

    /** "and by whom NEED .. is not above the FORCE" */
    private static void needAndForce() {
        RopeFerry ferry = Checks.ferryWith("stream 0 3;boat 7;rope 999");
        // NEED is 3 and 77 by 20: 7.
        int seed = seedOf(70);
        fair(ferry, new int[] {seed, 1, 100, 6}, 0, 1, 0, 0, 0, 0);
        fair(ferry, new int[] {seed, 1, 100, 7}, 1, 0, 0, 0, 0, 1);
    }

    /** "each goes on that with all before still is not above": who does not fit is passed over. */
    private static void withAllBefore() {
        RopeFerry ferry = Checks.ferryWith("wide 60;stream 0 0;boat 0;rope 90");
        // 40 goes at 0 and is back at 3 (2 and 1): 60 goes on, 50 does not, 30 does, 90 in all.
        int seed = seedOf(40, 60, 50, 30);
        fair(ferry, new int[] {seed, 4, 100, 99}, 3, 1, 0, 2, 2, 2);
        fair(ferry, new int[] {seedOf(40, 60, 50, 40), 4, 100, 99}, 2, 2, 0, 2, 2, 2);
        RopeFerry quick = Checks.ferryWith(QUICK + 999);
        // 60 needs 3, both 5.
        seed = seedOf(10, 60, 30);
        fair(quick, new int[] {seed, 3, 100, 5}, 3, 0, 0, 1, 1, 2);
        fair(quick, new int[] {seed, 3, 100, 4}, 2, 1, 0, 1, 1, 2);
    }

    /** "if none does, it waits" */
    private static void ifNoneDoes() {
        RopeFerry ferry = Checks.ferryWith(QUICK + 50);
        int seed = seedOf(90, 60, 50, 10, 90);
        fair(ferry, new int[] {seed, 1, 100, 99}, 0, 1, 0, 0, 0, 0);
        fair(ferry, new int[] {seed, 2, 100, 99}, 0, 2, 0, 0, 0, 0);
        fair(ferry, new int[] {seed, 3, 100, 99}, 1, 2, 0, 0, 0, 1);
        fair(ferry, new int[] {seed, 4, 100, 99}, 1, 3, 0, 0, 0, 1);
        fair(ferry, new int[] {seed, 5, 100, 99}, 2, 3, 0, 1, 1, 2);
    }

    /** "3 the longest that one who went over WAITED, 4 all that such WAITED together" */
    private static void waited() {
        RopeFerry ferry = Checks.ferryWith("wide 60;stream 0 0;boat 0;rope 999");
        // 90 goes at 0 and is back at 5: those of 1 to 5 go, but for what waits behind it.
        int seed = seedOf(90, 10, 10);
        fair(ferry, new int[] {seed, 5, 100, 99}, 1, 4, 0, 0, 0, 1);
        fair(ferry, new int[] {seed, 6, 100, 99}, 6, 0, 0, 4, 4 + 3 + 2 + 1, 2);
        // One who still waits has not gone over, however long.
        RopeFerry heavy = Checks.ferryWith(QUICK + 80);
        fair(heavy, new int[] {seed, 2, 100, 99}, 1, 1, 0, 0, 0, 1);
    }

    /** "(STREAM of the hour of now)" */
    private static void streamOfNow() {
        RopeFerry ferry = Checks.ferryWith("stream 0 9;stream 1 0;boat 0;wide 5");
        fair(ferry, new int[] {4, 500, 100, 8}, 0, 40, 460, 0, 0, 0);
        ferry.rest(59);
        Checks.due("at the end of the hour", ferry.fair(4, 1, 100, 8, 0), 0);
        ferry.rest(1);
        Checks.due("in the next", ferry.fair(4, 1, 100, 8, 0), 1);
    }

    /** "it waits at BANK 0": the FAIR's own, wherever the object's is. */
    private static void whereverTheFerryIs() {
        RopeFerry far = Checks.ferryWith("person 9 5 swims;person 9 5 swims;stream 0 0;boat 0;wide 5");
        int before = far.fair(4, 500, 50, 8, 0);
        far.swim(0);
        far.cross(2, 1);
        Checks.due("BANK of the FERRY", far.count(3), 1);
        Checks.due("at BANK 1", far.fair(4, 500, 50, 8, 0), before);
    }

    /** "A FAIR by a SEED": it has all of its own, and tells no more than it is asked. */
    private static void nothingStays() {
        RopeFerry ferry = Checks.ferryWith("person 5 5;boat 3");
        java.util.List<Integer> before = Checks.answersOf(ferry);
        ferry.fair(1, 600, 70, 50, 0);
        Checks.same("behind a fair", Checks.answersOf(ferry), before);
        ferry.feed(1, 2, 3, 4, 5);
        ferry.fair(1, 600, 70, 50, 0);
        Checks.due("the tape stays: end(20)", ferry.end(20), true);
    }
}
