import java.util.Random;

/** Many drawn runs of calls, each answered by the program and by the model. */
public final class ModelTest {
    private static final String[] LINE = {"person 5 60", "person 9 40 swims", "beast 7 50 swims",
        "beast 3 30", "goods 40", "goods 99", "lame 50", "lame 20", "rope 150", "rope 90", "boat 5",
        "boat 40", "wide 3", "wide 33", "stream 0 0", "stream 1 1", "stream 0 2", "stream 5 6",
        "apart 0 1", "apart 1 2 unless 0", "apart 3 2 unless 1", "apart 0 4", "with 2 0",
        "with 3 1", "with 0 1", "person 8 10", "person 9 70", "person 6 33 swims"};
    private static final String[] WORD = {"person", "beast", "goods", "lame", "swims", "rope",
        "boat", "wide", "stream", "apart", "unless", "with", "if", "or", "and", "not", "waited",
        "weight", "queue", "minute", ";", "(", ")", "<", ">", "+", "0", "1", "7", "12", "99", "060",
        "999", "1000", "x", "*", " ", "  ", "Z", "\u00e4", "-"};
    private static final String[] RULE = {"5", "7 if weight>50", "9 if waited > 3 and not queue<4",
        "2 if (weight<30 or weight>70) and minute+1>20", "100 if waited+waited>weight",
        "3 if not(not minute<9 or queue+queue+queue>40)", "1 if 30<minute and minute<90",
        "8 if weight<40 or waited>20 and queue>2", "99 if not not weight>80"};

    private final Random random;
    private final RopeFerry ferry = new RopeFerry();
    private final Model model = new Model();
    private final StringBuilder told = new StringBuilder();
    private final int mostBeings;
    private final boolean spoils;

    private ModelTest(int seed) {
        random = new Random(seed);
        spoils = seed % 3 == 0;
        mostBeings = seed % 40 == 1 ? 8 : 4;
    }

    public static void main(String[] args) {
        int runs = args.length > 0 ? Integer.parseInt(args[0]) : 300;
        for (int seed = 0; seed < runs; seed++) {
            new ModelTest(seed).run(seed);
        }
        Checks.finish();
    }

    private void run(int seed) {
        if (!spoils || seed % 2 == 0) {
            String text = kindRiver();
            told.append(text);
            tell(text);
            same("run " + seed + ", a kind river", ferry::river, model::river);
        }
        for (int call = 0; call < 150; call++) {
            doCall("run " + seed + ", call " + call);
        }
    }

    private void same(String call, Checks.Call program, Checks.Call due) {
        String got = answerOf(program);
        String want = answerOf(due);
        if (!got.equals(want)) {
            Checks.due(call + " (" + told + ") is " + got + ", the model: " + want, false, true);
        }
    }

    private static String answerOf(Checks.Call call) {
        try {
            return "" + call.answer();
        } catch (RuntimeException e) {
            return e.getClass().getName();
        }
    }

    private int below(int bound) {
        return random.nextInt(bound);
    }

    private int being() {
        return below(20) == 0 ? below(13) - 2 : below(Math.max(1, ferry.count(0)));
    }

    private int set() {
        int all = (1 << ferry.count(0)) - 1;
        return below(12) == 0 ? random.nextInt() : below(1024) & all;
    }

    /** A load and pullers that often go: of the one bank and of the other. */
    private int setAt(int bank) {
        int far = ferry.count(4);
        int all = (1 << ferry.count(0)) - 1;
        int here = bank == 1 ? far : all & ~far;
        if (below(15) == 0) {
            return set();
        }
        return below(3) == 0 ? here : here & below(1024);
    }

    private void tell(String text) {
        int end = Math.min(text.length(), 400);
        for (int from = 0; from < end; from += 20) {
            int[] n = new int[5];
            for (int i = 0; i < 20; i++) {
                n[i / 4] = n[i / 4] << 8 | (from + i < end ? text.charAt(from + i) : 7);
            }
            same("feed", () -> ferry.feed(n[0], n[1], n[2], n[3], n[4]), () -> model.feed(n));
        }
        if (below(60) != 0) {
            same("end", () -> ferry.end(end) ? 1 : 0, () -> model.end(end) ? 1 : 0);
        }
    }

    /** A river that much can be done at: strong swimmers, little stream, few who are apart. */
    private String kindRiver() {
        StringBuilder text = new StringBuilder("stream 0 " + below(3) + ";boat " + below(15));
        int beings = 3 + below(mostBeings - 2);
        for (int i = 0; i < beings; i++) {
            boolean strong = i < 2 || below(3) == 0;
            text.append(strong ? ";person " + (6 + below(4)) : ";beast " + below(10));
            text.append(" " + (1 + below(70)) + (strong || below(3) == 0 ? " swims" : ""));
        }
        text.append(below(2) == 0 ? ";lame 30" : ";goods 20");
        int pairs = below(3);
        for (int i = 0; i < pairs; i++) {
            int a = below(beings);
            int b = (a + 1 + below(beings - 1)) % beings;
            int c = below(beings);
            boolean third = c != a && c != b;
            text.append((below(3) == 0 ? ";with " : ";apart ") + a + " " + b);
            text.append(third && text.charAt(text.lastIndexOf(";") + 1) == 'a' ? " unless " + c : "");
        }
        return text.toString();
    }

    private String riverText() {
        StringBuilder text = new StringBuilder();
        int lines = below(6) == 0 ? below(17) : below(5);
        int beings = ferry.count(0);
        for (int i = 0; i < lines; i++) {
            String line = LINE[below(LINE.length)];
            boolean isBeing = line.matches("(person|beast|goods|lame).*");
            if (isBeing && beings >= mostBeings && below(30) != 0) {
                line = "wide " + (1 + below(60));
            }
            beings += isBeing ? 1 : 0;
            text.append(text.length() == 0 ? "" : below(2) == 0 ? ";" : " ; ").append(line);
        }
        return spoiled(text.toString());
    }

    private String ruleText() {
        StringBuilder text = new StringBuilder();
        int lines = below(9) == 0 ? below(15) : below(5);
        for (int i = 0; i < lines; i++) {
            text.append(i == 0 ? "" : ";").append(RULE[below(RULE.length)]);
        }
        return spoiled(text.toString());
    }

    private String spoiled(String text) {
        int at = below(text.length() + 1);
        int behind = Math.min(text.length(), at + below(4));
        switch (below(8)) {
            case 0:
                return text.substring(0, at) + WORD[below(WORD.length)] + text.substring(at);
            case 1:
                return text.substring(0, at) + text.substring(behind);
            case 2:
                return text.substring(0, at);
            case 3:
                return wordsOnly();
            default:
                return text;
        }
    }

    private String wordsOnly() {
        StringBuilder text = new StringBuilder();
        for (int n = below(9); n > 0; n--) {
            text.append(WORD[below(WORD.length)]).append(below(2) == 0 ? " " : "");
        }
        return text.toString();
    }

    private void doCall(String name) {
        int kind = below(20);
        told.setLength(0);
        if (kind == 0 && (spoils || below(9) == 0)) {
            String text = riverText();
            told.append(text);
            tell(text);
            same(name + " river", ferry::river, model::river);
            same(name + " fault", ferry::fault, model::fault);
        } else if (kind == 2) {
            String text = ruleText();
            told.append(text);
            tell(text);
            same(name + " rule", ferry::rule, model::rule);
            same(name + " fault", ferry::fault, model::fault);
        } else if (kind < 9) {
            doMove(name);
        } else if (kind < 12) {
            askPlan(name);
        } else if (kind == 12) {
            askLost(name);
        } else if (kind == 13) {
            askFair(name);
        } else if (kind == 14) {
            askImage(name);
        } else {
            askRest(name);
        }
    }

    /** Everybody of this bank who has force. */
    private int strongAt(int bank) {
        int strong = 0;
        for (int being = 0; being < ferry.count(0); being++) {
            if (ferry.look(being, 6) == bank && ferry.look(being, 5) > 0) {
                strong |= 1 << being;
            }
        }
        return strong;
    }

    private void followPlan(String name) {
        int set = set();
        int move = ferry.row(set, below(2) == 0, 0);
        if (move >= 1024) {
            same(name + " planned swim", () -> ferry.swim(move - 1024), () -> model.swim(move - 1024));
        } else if (move >= 0) {
            int pullers = strongAt(1 - ferry.count(3));
            same(name + " planned cross", () -> ferry.cross(move, pullers),
                    () -> model.cross(move, pullers));
        }
    }

    private void doMove(String name) {
        if (below(2) == 0 && ferry.count(0) > 0) {
            followPlan(name);
            return;
        }
        int load = setAt(ferry.count(3));
        int pullers = setAt(1 - ferry.count(3));
        int being = being();
        int minutes = below(30) - 1 == 0 ? 600 + below(2) : below(90);
        switch (below(8)) {
            case 0:
                same(name + " rest", () -> ferry.rest(minutes), () -> model.rest(minutes));
                break;
            case 1:
            case 2:
                same(name + " swim " + being, () -> ferry.swim(being), () -> model.swim(being));
                break;
            default:
                same(name + " cross " + load + " " + pullers, () -> ferry.cross(load, pullers),
                        () -> model.cross(load, pullers));
        }
    }

    private void askPlan(String name) {
        int set = set();
        boolean moves = below(2) == 0;
        if (ferry.count(0) > 6 && below(6) != 0) {
            return;
        }
        int what = below(9) == 0 ? below(5) - 1 : below(2);
        same(name + " plan", () -> ferry.plan(set, moves, what), () -> model.plan(set, moves, what));
        for (int n = below(3) - 1; n < 7; n += 1 + below(3)) {
            int k = n;
            same(name + " row", () -> ferry.row(set, moves, k), () -> model.row(set, moves, k));
        }
        same(name + " left", ferry::left, model::left);
    }

    private void askLost(String name) {
        int bank = ferry.count(3);
        int[] loads = new int[below(8)];
        int set = set();
        for (int i = 0; i < loads.length; i++) {
            int planned = below(4) == 0 ? RopeFerry.NONE : ferry.row(set, true, i);
            boolean crosses = planned >= 0 && planned < 1024;
            loads[i] = crosses ? planned : below(2) == 0 ? 0 : setAt(below(2) == 0 ? bank : 1) & 1023;
        }
        for (int i = 1; i < loads.length; i++) {
            int other = below(i + 1);
            int load = loads[i];
            loads[i] = loads[other];
            loads[other] = load;
        }
        String row = Checks.rowOf(loads);
        if (below(9) == 0) {
            row = row + WORD[below(WORD.length)];
        }
        told.append(row);
        for (int k = -2 + below(3); k < 3; k += 1 + below(3)) {
            int place = k;
            tell(row);
            same(name + " lost " + k, () -> ferry.lost(place), () -> model.lost(place));
        }
    }

    private void askFair(String name) {
        int seed = below(3) == 0 ? below(9) : random.nextInt();
        int minutes = below(9) == 0 ? below(700) - 30 : below(300);
        int chance = below(9) == 0 ? below(120) - 5 : below(101);
        int force = below(9) == 0 ? below(120) - 5 : 3 + below(40);
        for (int what = below(8) == 0 ? -1 : 0; what < 7; what += 1 + below(2)) {
            int w = what;
            same(name + " fair", () -> ferry.fair(seed, minutes, chance, force, w),
                    () -> model.fair(seed, minutes, chance, force, w));
        }
    }

    private void askImage(String name) {
        if (below(2) == 0) {
            ferry.image();
            model.image();
        } else {
            same(name + " back", () -> ferry.back() ? 1 : 0, () -> model.back() ? 1 : 0);
        }
    }

    private void askRest(String name) {
        for (int n = 0; n < 6; n++) {
            int a = being();
            int b = being();
            int w = below(14) - 1;
            int set = set();
            same(name + " look " + a + " " + w, () -> ferry.look(a, w), () -> model.look(a, w));
            same(name + " owed", () -> ferry.owed(a, b), () -> model.owed(a, b));
            same(name + " clear", () -> ferry.clear(w - 2), () -> model.clear(w - 2));
            same(name + " count", () -> ferry.count(w), () -> model.count(w));
            same(name + " need", () -> ferry.need(set), () -> model.need(set));
            same(name + " may", () -> ferry.may(set) ? 1 : 0, () -> model.may(set) ? 1 : 0);
            same(name + " fault", ferry::fault, model::fault);
        }
    }
}
