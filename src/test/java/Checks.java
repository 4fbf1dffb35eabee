import java.util.ArrayList;
import java.util.List;

/** What all tests share: telling texts, and comparing answers with what is due. */
final class Checks {
    private static int wrong = 0;

    private Checks() {
    }

    interface Call {
        long answer();
    }

    static void due(String call, long got, long want) {
        if (got != want) {
            wrong++;
            System.out.println(call + " answered " + got + ", due is " + want);
        }
    }

    static void due(String call, boolean got, boolean want) {
        due(call, got ? 1 : 0, want ? 1 : 0);
    }

    /** The call must throw just this exception, no child of it. */
    static void thrown(String call, Class<? extends RuntimeException> want, Call made) {
        String got;
        try {
            got = "answered " + made.answer();
        } catch (RuntimeException e) {
            if (e.getClass() == want) {
                return;
            }
            got = "threw " + e;
        }
        wrong++;
        System.out.println(call + " " + got + ", due is " + want.getSimpleName());
    }

    /** The call must throw just this exception, and change nothing that can be asked for. */
    static void refused(RopeFerry ferry, String call, Class<? extends RuntimeException> want,
            Call made) {
        List<Integer> before = answersOf(ferry);
        thrown(call, want, made);
        same("behind " + call, answersOf(ferry), before);
    }

    /** Puts a text, of signs 0 to 255, behind the tape; it must leave no rest of twenty too much. */
    static void tell(RopeFerry ferry, String text) {
        int before = sizeOf(ferry);
        for (int from = 0; from < text.length(); from += 20) {
            int[] fives = new int[5];
            for (int i = 0; i < 20; i++) {
                int sign = from + i < text.length() ? text.charAt(from + i) : 0;
                fives[i / 4] = fives[i / 4] << 8 | sign;
            }
            if (ferry.feed(fives[0], fives[1], fives[2], fives[3], fives[4]) == RopeFerry.NONE) {
                throw new IllegalStateException("the test tells too long a text");
            }
        }
        if (!ferry.end(before + text.length())) {
            throw new IllegalStateException("the tape is shorter than the test's text");
        }
    }

    /** The tape's size is told by no call but end, which can be asked for what it has. */
    private static int sizeOf(RopeFerry ferry) {
        int size = 400;
        while (size > 0 && !ferry.end(size)) {
            size--;
        }
        return size;
    }

    /** A text of one LINE again and again. */
    static String times(String line, int n) {
        StringBuilder text = new StringBuilder(line);
        for (int i = 1; i < n; i++) {
            text.append(';').append(line);
        }
        return text.toString();
    }

    static int river(RopeFerry ferry, String text) {
        tell(ferry, text);
        return ferry.river();
    }

    static int rule(RopeFerry ferry, String text) {
        tell(ferry, text);
        return ferry.rule();
    }

    /** The text must be refused for this first wrong byte, and use the TAPE up. */
    static void wrongRiver(RopeFerry ferry, String text, int at) {
        tell(ferry, text);
        thrown("river of '" + text + "'", IllegalArgumentException.class, ferry::river);
        wrongText(ferry, text, at);
    }

    static void wrongRule(RopeFerry ferry, String text, int at) {
        tell(ferry, text);
        thrown("rule '" + text + "'", IllegalArgumentException.class, ferry::rule);
        wrongText(ferry, text, at);
    }

    private static void wrongText(RopeFerry ferry, String text, int at) {
        due("fault of '" + text + "'", ferry.fault(), at);
        due("behind '" + text + "' the TAPE is used up: end(1)", ferry.end(1), false);
    }

    static RopeFerry ferryWith(String... texts) {
        RopeFerry ferry = new RopeFerry();
        for (String text : texts) {
            river(ferry, text);
        }
        return ferry;
    }

    static int lost(RopeFerry ferry, int k, int... loads) {
        tell(ferry, rowOf(loads));
        return ferry.lost(k);
    }

    static String rowOf(int... loads) {
        StringBuilder row = new StringBuilder();
        for (int load : loads) {
            row.append((char) (48 + (load & 31))).append((char) (48 + (load >> 5 & 31)));
        }
        return row.toString();
    }

    /** All answers that can be asked for without changing anything but the tape. */
    static List<Integer> answersOf(RopeFerry ferry) {
        List<Integer> answers = new ArrayList<>();
        for (int what = 0; what < 12; what++) {
            answers.add(ferry.count(what));
        }
        for (int being = 0; being < ferry.count(0); being++) {
            for (int what = 0; what < 8; what++) {
                answers.add(ferry.look(being, what));
            }
            for (int other = 0; other < ferry.count(0); other++) {
                answers.add(ferry.owed(being, other));
            }
        }
        for (int set = 0; set < 1024; set += 7) {
            answers.add(ferry.may(set) ? 1 : 0);
            answers.add(ferry.need(set));
        }
        for (int k = RopeFerry.NONE; k < 9; k++) {
            answers.add(ferry.clear(k));
            answers.add(ferry.row(-1, true, k));
        }
        answers.add(ferry.plan(-1, false, 0));
        answers.add(ferry.left());
        answers.add(ferry.fair(7, 200, 60, 40, 4));
        return answers;
    }

    static void same(String call, List<Integer> got, List<Integer> want) {
        if (!got.equals(want)) {
            wrong++;
            System.out.println(call + ": the answers are " + got + ", due are " + want);
        }
    }

    static void finish() {
        if (wrong != 0) {
            System.out.println(wrong + " answers are not as due");
            System.exit(1);
        }
    }
}
