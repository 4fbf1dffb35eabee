import java.util.ArrayDeque;
import java.util.ArrayList;
import java.util.Arrays;
import java.util.Deque;
import java.util.HashMap;
import java.util.List;
import java.util.Map;
import java.util.NoSuchElementException;
import java.util.TreeSet;
import java.util.function.Predicate;
import java.util.function.ToIntFunction;
import java.util.regex.Matcher;
import java.util.regex.Pattern;

/**
 * The document told once more, slowly and by other ways than the program's: sets as sets, texts by
 * an automaton, plans by going through all states until nothing gets better. Tests compare both.
 */
final class Model {
    static final int NONE = -1;

    static final class Being {
        int kind;
        int strength;
        int weight;
        boolean swims;
        int tired;
        int bank;
        TreeSet<Integer> only = new TreeSet<>();

        int force() {
            return strength > tired ? strength - tired : 0;
        }

        Being copy() {
            Being b = new Being();
            b.kind = kind;
            b.strength = strength;
            b.weight = weight;
            b.swims = swims;
            b.tired = tired;
            b.bank = bank;
            b.only.addAll(only);
            return b;
        }
    }

    /** Everything that THE IMAGE keeps. */
    static final class All {
        List<Being> beings = new ArrayList<>();
        int rope = 200;
        int boat = 20;
        int wide = 10;
        int[] stream = new int[24];
        List<int[]> aparts = new ArrayList<>();
        int withs;
        int texts;
        int clock;
        int ferry;
        int crossings;
        int swims;
        int[][] owed = new int[10][10];
        List<Line> rule;

        All() {
            for (int i = 0; i < 24; i++) {
                stream[i] = 2;
            }
        }

        All copy() {
            All a = new All();
            for (Being b : beings) {
                a.beings.add(b.copy());
            }
            a.rope = rope;
            a.boat = boat;
            a.wide = wide;
            a.stream = stream.clone();
            a.aparts.addAll(aparts);
            a.withs = withs;
            a.texts = texts;
            a.clock = clock;
            a.ferry = ferry;
            a.crossings = crossings;
            a.swims = swims;
            for (int i = 0; i < 10; i++) {
                a.owed[i] = owed[i].clone();
            }
            a.rule = rule;
            return a;
        }
    }

    record Line(int number, Predicate<int[]> condition) {
    }

    record Token(String text, int start) {
        boolean isNumber() {
            return text.matches("[0-9]{1,3}");
        }

        int number() {
            return Integer.parseInt(text);
        }
    }

    All all = new All();
    All kept;
    StringBuilder tape = new StringBuilder();
    int fault = NONE;

    // ---- the tape

    int feed(int... five) {
        if (tape.length() + 20 > 400) {
            return NONE;
        }
        for (int four : five) {
            for (byte b : java.nio.ByteBuffer.allocate(4).putInt(four).array()) {
                tape.append((char) (b & 255));
            }
        }
        return tape.length();
    }

    boolean end(int n) {
        if (n < 0 || n > tape.length()) {
            return false;
        }
        tape.setLength(n);
        return true;
    }

    private String useUp() {
        String text = tape.toString();
        tape.setLength(0);
        return text;
    }

    private static final Pattern TOKEN = Pattern.compile("[0-9]+|[a-z]+|[^ ]", Pattern.DOTALL);

    static List<Token> tokensOf(String text) {
        List<Token> tokens = new ArrayList<>();
        Matcher m = TOKEN.matcher(text);
        while (m.find()) {
            tokens.add(new Token(m.group(), m.start()));
        }
        return tokens;
    }

    // ---- the river

    static final class Wrong extends Exception {
        private static final long serialVersionUID = 1;
        final int at;

        Wrong(int at) {
            this.at = at;
        }
    }

    int river() {
        String text = useUp();
        All next = all.copy();
        fault = NONE;
        try {
            readRiver(text, next);
        } catch (Wrong w) {
            fault = w.at;
            throw new IllegalArgumentException();
        }
        if (all.texts == 10) {
            throw new UnsupportedOperationException();
        }
        next.texts++;
        all = next;
        return all.texts;
    }

    private static final Map<String, String> SHAPES = new HashMap<>();

    static {
        SHAPES.put("person", "SW");
        SHAPES.put("beast", "SW");
        SHAPES.put("goods", "W");
        SHAPES.put("lame", "W");
        SHAPES.put("rope", "R");
        SHAPES.put("boat", "B");
        SHAPES.put("wide", "I");
        SHAPES.put("stream", "HS");
        SHAPES.put("apart", "AA");
        SHAPES.put("with", "AA");
    }

    private static int[] boundsOf(char shape) {
        switch (shape) {
            case 'S':
                return new int[] {0, 9};
            case 'W':
                return new int[] {1, 99};
            case 'R':
                return new int[] {1, 999};
            case 'B':
                return new int[] {0, 99};
            case 'I':
                return new int[] {1, 60};
            case 'H':
                return new int[] {0, 23};
            default:
                return new int[] {0, 999};
        }
    }

    private void readRiver(String text, All into) throws Wrong {
        Deque<Token> rest = new ArrayDeque<>(tokensOf(text));
        int end = text.length();
        if (rest.isEmpty()) {
            return;
        }
        int lines = 0;
        while (true) {
            Token word = need(rest, end);
            if (lines == 14 || !SHAPES.containsKey(word.text) || isTooMany(word.text, into)) {
                throw new Wrong(word.start);
            }
            lines++;
            List<Integer> numbers = new ArrayList<>();
            for (char shape : SHAPES.get(word.text).toCharArray()) {
                numbers.add(number(rest, end, shape, numbers, into));
            }
            boolean swims = false;
            Token next = rest.peek();
            if (next != null && next.text.equals("swims")
                    && (word.text.equals("person") || word.text.equals("beast"))) {
                swims = true;
                rest.poll();
            } else if (next != null && next.text.equals("unless") && word.text.equals("apart")) {
                rest.poll();
                numbers.add(number(rest, end, 'A', numbers, into));
            }
            doLine(word.text, numbers, swims, into);
            if (rest.isEmpty()) {
                return;
            }
            Token between = rest.poll();
            if (!between.text.equals(";")) {
                throw new Wrong(between.start);
            }
        }
    }

    private static Token need(Deque<Token> rest, int end) throws Wrong {
        if (rest.isEmpty()) {
            throw new Wrong(end);
        }
        return rest.poll();
    }

    private static boolean isTooMany(String word, All into) {
        switch (word) {
            case "person":
            case "beast":
            case "goods":
            case "lame":
                return into.beings.size() == 10;
            case "apart":
                return into.aparts.size() == 12;
            case "with":
                return into.withs == 12;
            default:
                return false;
        }
    }

    private static int number(Deque<Token> rest, int end, char shape, List<Integer> before, All into)
            throws Wrong {
        Token token = need(rest, end);
        int[] bounds = boundsOf(shape);
        if (!token.isNumber() || token.number() < bounds[0] || token.number() > bounds[1]) {
            throw new Wrong(token.start);
        }
        if (shape == 'A'
                && (token.number() >= into.beings.size() || before.contains(token.number()))) {
            throw new Wrong(token.start);
        }
        return token.number();
    }

    private static void doLine(String word, List<Integer> n, boolean swims, All into) {
        int kind = List.of("person", "beast", "goods", "lame").indexOf(word);
        if (kind >= 0) {
            Being b = new Being();
            b.kind = kind;
            b.strength = n.size() == 2 ? n.get(0) : 0;
            b.weight = n.get(n.size() - 1);
            b.swims = swims;
            into.beings.add(b);
        } else if (word.equals("rope")) {
            into.rope = n.get(0);
        } else if (word.equals("boat")) {
            into.boat = n.get(0);
        } else if (word.equals("wide")) {
            into.wide = n.get(0);
        } else if (word.equals("stream")) {
            for (int h = n.get(0); h <= 23; h++) {
                into.stream[h] = n.get(1);
            }
        } else if (word.equals("apart")) {
            into.aparts.add(n.stream().mapToInt(Integer::intValue).toArray());
        } else {
            into.beings.get(n.get(0)).only.add(n.get(1));
            into.withs++;
        }
    }

    // ---- the rule

    int rule() {
        String text = useUp();
        fault = NONE;
        try {
            all.rule = readRule(text);
        } catch (Wrong w) {
            fault = w.at;
            throw new IllegalArgumentException();
        }
        return all.rule.size();
    }

    /** Cuts the tokens into lines by what may stand where, then makes each line's condition. */
    private static List<Line> readRule(String text) throws Wrong {
        List<Line> lines = new ArrayList<>();
        List<Token> tokens = tokensOf(text);
        if (tokens.isEmpty()) {
            return lines;
        }
        checkRule(tokens, text.length());
        List<Token> line = new ArrayList<>();
        for (Token token : tokens) {
            if (token.text.equals(";")) {
                lines.add(lineOf(line));
                line = new ArrayList<>();
            } else {
                line.add(token);
            }
        }
        lines.add(lineOf(line));
        return lines;
    }

    /** States: N number, I behind it, A atom, P part, Q behind a part, E behind an atom. */
    private static void checkRule(List<Token> tokens, int end) throws Wrong {
        char state = 'N';
        int lines = 0;
        boolean compared = false;
        // What is open: ( and not, the latest last; a not ends with the atom behind it.
        Deque<String> open = new ArrayDeque<>();
        for (Token token : tokens) {
            String t = token.text;
            boolean part = token.isNumber()
                    || List.of("waited", "weight", "queue", "minute").contains(t);
            if (state == 'N' && token.isNumber() && lines < 12) {
                lines++;
                state = 'I';
            } else if (state == 'I' && t.equals("if")) {
                state = 'A';
            } else if (state == 'A' && (t.equals("(") || t.equals("not")) && open.size() < 6) {
                open.push(t);
            } else if ((state == 'A' || state == 'P') && part) {
                compared = state == 'A' ? false : compared;
                state = 'Q';
            } else if (state == 'Q' && t.equals("+")) {
                state = 'P';
            } else if (state == 'Q' && !compared && (t.equals("<") || t.equals(">"))) {
                compared = true;
                state = 'P';
            } else if (state == 'Q' && compared && (t.equals("or") || t.equals("and"))
                    || state == 'E' && (t.equals("or") || t.equals("and"))) {
                closeNots(open);
                state = 'A';
            } else if ((state == 'Q' && compared || state == 'E') && t.equals(")")
                    && open.contains("(")) {
                closeNots(open);
                open.pop();
                state = 'E';
            } else if ((state == 'I' || state == 'Q' && compared || state == 'E') && t.equals(";")
                    && !open.contains("(")) {
                open.clear();
                state = 'N';
            } else {
                throw new Wrong(token.start);
            }
        }
        boolean whole = state == 'I' || state == 'Q' && compared || state == 'E';
        if (!whole || open.contains("(")) {
            throw new Wrong(end);
        }
    }

    private static void closeNots(Deque<String> open) {
        while (!open.isEmpty() && open.peek().equals("not")) {
            open.pop();
        }
    }

    private static Line lineOf(List<Token> tokens) {
        int number = tokens.get(0).number();
        if (tokens.size() == 1) {
            return new Line(number, x -> true);
        }
        List<String> words = new ArrayList<>();
        for (Token t : tokens.subList(2, tokens.size())) {
            words.add(t.text);
        }
        return new Line(number, conditionOf(words));
    }

    /** Splits at the weakest word that is in no brackets. */
    private static Predicate<int[]> conditionOf(List<String> words) {
        int or = splitAt(words, List.of("or"));
        if (or >= 0) {
            Predicate<int[]> left = conditionOf(words.subList(0, or));
            return left.or(conditionOf(words.subList(or + 1, words.size())));
        }
        int and = splitAt(words, List.of("and"));
        if (and >= 0) {
            Predicate<int[]> left = conditionOf(words.subList(0, and));
            return left.and(conditionOf(words.subList(and + 1, words.size())));
        }
        if (words.get(0).equals("not")) {
            return conditionOf(words.subList(1, words.size())).negate();
        }
        if (words.get(0).equals("(")) {
            return conditionOf(words.subList(1, words.size() - 1));
        }
        int sign = splitAt(words, List.of("<", ">"));
        ToIntFunction<int[]> left = sumOf(words.subList(0, sign));
        ToIntFunction<int[]> right = sumOf(words.subList(sign + 1, words.size()));
        return words.get(sign).equals("<")
                ? x -> left.applyAsInt(x) < right.applyAsInt(x)
                : x -> left.applyAsInt(x) > right.applyAsInt(x);
    }

    private static int splitAt(List<String> words, List<String> at) {
        int depth = 0;
        for (int i = 0; i < words.size(); i++) {
            depth += words.get(i).equals("(") ? 1 : words.get(i).equals(")") ? -1 : 0;
            if (depth == 0 && at.contains(words.get(i))) {
                return i;
            }
        }
        return -1;
    }

    private static ToIntFunction<int[]> sumOf(List<String> words) {
        List<String> names = List.of("waited", "weight", "queue", "minute");
        return x -> {
            int sum = 0;
            for (String word : words) {
                if (names.contains(word)) {
                    sum += x[names.indexOf(word)];
                } else if (!word.equals("+")) {
                    sum += Integer.parseInt(word);
                }
            }
            return sum;
        };
    }

    int fault() {
        return fault;
    }

    // ---- what is asked

    private Being being(int number) {
        if (number < 0 || number >= all.beings.size()) {
            throw new IndexOutOfBoundsException();
        }
        return all.beings.get(number);
    }

    int look(int being, int what) {
        Being b = being(being);
        switch (what) {
            case 0:
                return b.kind;
            case 1:
                return b.strength;
            case 2:
                return b.weight;
            case 3:
                return b.swims ? 1 : 0;
            case 4:
                return b.tired;
            case 5:
                return b.force();
            case 6:
                return b.bank;
            case 7:
                return balance(being);
            default:
                throw new NoSuchElementException();
        }
    }

    private TreeSet<Integer> setOf(int bits) {
        TreeSet<Integer> set = new TreeSet<>();
        for (int i = 0; i < all.beings.size(); i++) {
            if ((bits & 1 << i) != 0) {
                set.add(i);
            }
        }
        return set;
    }

    private int streamNow() {
        return all.stream[all.clock / 60 % 24];
    }

    private int weigh(TreeSet<Integer> set) {
        return all.boat + set.stream().mapToInt(i -> all.beings.get(i).weight).sum();
    }

    private int needOf(int weight) {
        return streamNow() + (int) Math.ceil(weight / 20.0);
    }

    int need(int load) {
        return needOf(weigh(setOf(load)));
    }

    boolean may(int set) {
        return peace(setOf(set));
    }

    private boolean peace(TreeSet<Integer> set) {
        for (int[] apart : all.aparts) {
            boolean both = set.contains(apart[0]) && set.contains(apart[1]);
            if (both && (apart.length == 2 || !set.contains(apart[2]))) {
                return false;
            }
        }
        return true;
    }

    private int minutesOf(int need, int force) {
        return Math.max(1, (int) Math.ceil(all.wide * need / (double) force));
    }

    /** Where each is: the banks of the beings, and of the ferry behind them. */
    private int[] places() {
        int[] places = new int[all.beings.size() + 1];
        for (int i = 0; i < all.beings.size(); i++) {
            places[i] = all.beings.get(i).bank;
        }
        places[all.beings.size()] = all.ferry;
        return places;
    }

    private boolean peaceWithout(int[] places, int bank, TreeSet<Integer> gone) {
        TreeSet<Integer> set = new TreeSet<>();
        for (int i = 0; i + 1 < places.length; i++) {
            if (places[i] == bank && !gone.contains(i)) {
                set.add(i);
            }
        }
        return peace(set);
    }

    private static int[] moved(int[] places, TreeSet<Integer> gone, boolean ferryToo) {
        int[] moved = places.clone();
        for (int i : gone) {
            moved[i] = 1 - moved[i];
        }
        if (ferryToo) {
            moved[moved.length - 1] = 1 - moved[moved.length - 1];
        }
        return moved;
    }

    private boolean peaceful(int[] before, int[] behind, TreeSet<Integer> gone) {
        TreeSet<Integer> nobody = new TreeSet<>();
        return peaceWithout(before, 0, gone) && peaceWithout(before, 1, gone)
                && peaceWithout(behind, 0, nobody) && peaceWithout(behind, 1, nobody);
    }

    private int crossing(int[] places, TreeSet<Integer> load, TreeSet<Integer> pullers) {
        int bank = places[places.length - 1];
        int force = 0;
        for (int i : load) {
            if (places[i] != bank || !load.containsAll(all.beings.get(i).only)) {
                return NONE;
            }
        }
        for (int i : pullers) {
            if (places[i] == bank) {
                return NONE;
            }
            force += all.beings.get(i).force();
        }
        int need = needOf(weigh(load));
        if (weigh(load) > all.rope || force < need || force == 0) {
            return NONE;
        }
        return peaceful(places, moved(places, load, true), load) ? minutesOf(need, force) : NONE;
    }

    private int swimming(int[] places, int being) {
        Being b = all.beings.get(being);
        TreeSet<Integer> alone = new TreeSet<>(List.of(being));
        if (!b.swims || b.force() < streamNow() || !b.only.isEmpty()) {
            return NONE;
        }
        boolean peace = peaceful(places, moved(places, alone, false), alone);
        return peace ? all.wide + streamNow() : NONE;
    }

    int cross(int load, int pullers) {
        int known = (1 << all.beings.size()) - 1;
        TreeSet<Integer> loaded = setOf(load);
        TreeSet<Integer> pulling = setOf(pullers);
        int minutes = crossing(places(), loaded, pulling);
        if ((load & ~known) != 0 || (pullers & ~known) != 0 || minutes == NONE) {
            throw new IllegalStateException();
        }
        for (int p : pulling) {
            all.beings.get(p).tired++;
            for (int i : loaded) {
                if (all.beings.get(i).kind == 0 || all.beings.get(i).kind == 3) {
                    all.owed[i][p]++;
                }
            }
        }
        place(moved(places(), loaded, true));
        all.crossings++;
        pass(minutes);
        return minutes;
    }

    int swim(int number) {
        Being b = being(number);
        int minutes = swimming(places(), number);
        if (minutes == NONE) {
            throw new IllegalStateException();
        }
        b.bank = 1 - b.bank;
        b.tired += 2;
        all.swims++;
        pass(minutes);
        return minutes;
    }

    int rest(int minutes) {
        if (minutes < 1 || minutes > 600) {
            throw new IllegalArgumentException();
        }
        pass(minutes);
        return all.clock;
    }

    private void place(int[] places) {
        for (int i = 0; i < all.beings.size(); i++) {
            all.beings.get(i).bank = places[i];
        }
        all.ferry = places[all.beings.size()];
    }

    private void pass(int minutes) {
        for (int i = 0; i < minutes; i++) {
            all.clock++;
            if (all.clock % 60 == 0) {
                for (Being b : all.beings) {
                    b.tired -= b.tired > 0 ? 1 : 0;
                }
            }
        }
    }

    // ---- pulls

    int owed(int first, int second) {
        being(first);
        being(second);
        return all.owed[first][second];
    }

    private int balance(int being) {
        int balance = 0;
        for (int i = 0; i < 10; i++) {
            balance += all.owed[i][being];
            balance -= all.owed[being][i];
        }
        return balance;
    }

    int clear(int k) {
        if (k < NONE) {
            throw new IllegalArgumentException();
        }
        List<Integer> paid = new ArrayList<>();
        int[] balances = new int[all.beings.size()];
        for (int i = 0; i < balances.length; i++) {
            balances[i] = balance(i);
        }
        while (Arrays.stream(balances).anyMatch(b -> b != 0)) {
            int most = Arrays.stream(balances).max().getAsInt();
            int least = Arrays.stream(balances).min().getAsInt();
            int whom = 0;
            while (balances[whom] != most) {
                whom++;
            }
            int who = 0;
            while (balances[who] != least) {
                who++;
            }
            int much = most < -least ? most : -least;
            balances[whom] -= much;
            balances[who] += much;
            paid.add(10000 * who + 100 * whom + much % 100);
        }
        return k == NONE ? paid.size() : k < paid.size() ? paid.get(k) : NONE;
    }

    // ---- plans

    record Move(int name, int minutes, List<Integer> places) {
    }

    private static int[] arrayOf(List<Integer> places) {
        return places.stream().mapToInt(Integer::intValue).toArray();
    }

    private static List<Integer> listOf(int[] places) {
        List<Integer> list = new ArrayList<>();
        for (int p : places) {
            list.add(p);
        }
        return list;
    }

    /** All that have force on the bank where the ferry is not. */
    private TreeSet<Integer> pullersOf(int[] places) {
        TreeSet<Integer> pullers = new TreeSet<>();
        for (int i = 0; i + 1 < places.length; i++) {
            if (places[i] != places[places.length - 1] && all.beings.get(i).force() > 0) {
                pullers.add(i);
            }
        }
        return pullers;
    }

    private List<Move> movesOf(List<Integer> from) {
        int[] places = arrayOf(from);
        List<Move> moves = new ArrayList<>();
        TreeSet<Integer> pullers = pullersOf(places);
        for (int load = 0; load < 1 << all.beings.size(); load++) {
            int minutes = crossing(places, setOf(load), pullers);
            if (minutes != NONE) {
                moves.add(new Move(load, minutes, listOf(moved(places, setOf(load), true))));
            }
        }
        for (int i = 0; i < all.beings.size(); i++) {
            int minutes = swimming(places, i);
            if (minutes != NONE) {
                TreeSet<Integer> alone = new TreeSet<>(List.of(i));
                moves.add(new Move(1024 + i, minutes, listOf(moved(places, alone, false))));
            }
        }
        return moves;
    }

    private Map<List<Integer>, List<Move>> reached() {
        Map<List<Integer>, List<Move>> graph = new HashMap<>();
        Deque<List<Integer>> open = new ArrayDeque<>();
        open.add(listOf(places()));
        while (!open.isEmpty()) {
            List<Integer> state = open.poll();
            if (!graph.containsKey(state)) {
                graph.put(state, movesOf(state));
                graph.get(state).forEach(move -> open.add(move.places));
            }
        }
        return graph;
    }

    /** What is still to do from each state: minutes and moves, made better until nothing changes. */
    private Map<List<Integer>, int[]> stillToDo(Map<List<Integer>, List<Move>> graph, int set,
            boolean byMoves) {
        Map<List<Integer>, int[]> best = new HashMap<>();
        for (List<Integer> state : graph.keySet()) {
            if (setOf(set).stream().allMatch(i -> state.get(i) == 1)) {
                best.put(state, new int[] {0, 0});
            }
        }
        boolean better = true;
        while (better) {
            better = false;
            for (List<Integer> state : graph.keySet()) {
                for (Move move : graph.get(state)) {
                    int[] then = best.get(move.places);
                    if (then == null) {
                        continue;
                    }
                    int[] now = {then[0] + move.minutes, then[1] + 1};
                    if (isLess(now, best.get(state), byMoves)) {
                        best.put(state, now);
                        better = true;
                    }
                }
            }
        }
        return best;
    }

    private static boolean isLess(int[] one, int[] other, boolean byMoves) {
        int first = byMoves ? 1 : 0;
        return other == null || one[first] < other[first]
                || one[first] == other[first] && one[1 - first] < other[1 - first];
    }

    int plan(int set, boolean moves, int what) {
        if (what < 0 || what > 1) {
            throw new NoSuchElementException();
        }
        int[] best = stillToDo(reached(), set, moves).get(listOf(places()));
        return best == null ? NONE : best[what];
    }

    int row(int set, boolean moves, int k) {
        Map<List<Integer>, List<Move>> graph = reached();
        Map<List<Integer>, int[]> best = stillToDo(graph, set, moves);
        List<Integer> state = listOf(places());
        List<Integer> row = new ArrayList<>();
        while (best.get(state) != null && best.get(state)[1] > 0) {
            int[] now = best.get(state);
            for (Move move : graph.get(state)) {
                int[] then = best.get(move.places);
                if (then != null && then[0] + move.minutes == now[0] && then[1] + 1 == now[1]) {
                    row.add(move.name);
                    state = move.places;
                    break;
                }
            }
        }
        return k >= 0 && k < row.size() ? row.get(k) : NONE;
    }

    int left() {
        int least = NONE;
        for (List<Integer> state : reached().keySet()) {
            int bits = 0;
            for (int i = 0; i < all.beings.size(); i++) {
                bits |= state.get(i) == 0 ? 1 << i : 0;
            }
            if (least == NONE || Integer.bitCount(bits) * 2048 + bits
                    < Integer.bitCount(least) * 2048 + least) {
                least = bits;
            }
        }
        return least;
    }

    // ---- lost order

    int lost(int k) {
        String row = useUp();
        if (!row.matches("(?s)([0-O][0-O]){1,6}") || k < NONE) {
            throw new IllegalArgumentException();
        }
        List<Integer> loads = new ArrayList<>();
        for (int i = 0; i < row.length(); i += 2) {
            loads.add(row.charAt(i) - 48 + 32 * (row.charAt(i + 1) - 48));
        }
        List<List<Integer>> orders = new ArrayList<>();
        permute(new ArrayList<>(), loads.size(), orders);
        List<List<Integer>> good = new ArrayList<>();
        for (List<Integer> order : orders) {
            if (canBe(order, loads)) {
                good.add(order);
            }
        }
        if (k == NONE) {
            return good.size();
        }
        return good.isEmpty() || k >= loads.size() ? NONE : good.get(0).get(k);
    }

    private static void permute(List<Integer> begun, int size, List<List<Integer>> into) {
        if (begun.size() == size) {
            into.add(new ArrayList<>(begun));
        }
        for (int i = 0; i < size; i++) {
            if (!begun.contains(i)) {
                begun.add(i);
                permute(begun, size, into);
                begun.remove(begun.size() - 1);
            }
        }
    }

    private boolean canBe(List<Integer> order, List<Integer> loads) {
        int[] places = places();
        for (int i : order) {
            int load = loads.get(i);
            if (load >= 1 << all.beings.size()
                    || crossing(places, setOf(load), pullersOf(places)) == NONE) {
                return false;
            }
            places = moved(places, setOf(load), true);
        }
        return true;
    }

    // ---- the fair

    int fair(int seed, int minutes, int chance, int force, int what) {
        if (minutes < 0 || minutes > 600 || chance < 0 || chance > 100 || force < 1 || force > 99) {
            throw new IllegalArgumentException();
        }
        if (what < 0 || what > 5) {
            throw new NoSuchElementException();
        }
        long draw = seed;
        List<int[]> queue = new ArrayList<>();
        List<Integer> waits = new ArrayList<>();
        int home = 0;
        int went = 0;
        int away = 0;
        for (int minute = 0; minute < minutes; minute++) {
            away -= away > 0 ? 1 : 0;
            draw = (int) (1103515245L * draw + 12345L);
            if ((draw >> 16 & 32767) % 100 < chance) {
                draw = (int) (1103515245L * draw + 12345L);
                int weight = (int) (10 * ((draw >> 16 & 32767) % 9 + 1));
                if (queue.size() == 40) {
                    home++;
                } else {
                    queue.add(new int[] {minute, weight});
                }
            }
            if (away > 0) {
                continue;
            }
            List<int[]> sorted = new ArrayList<>(queue);
            int now = minute;
            sorted.sort((x, y) -> numberOf(y, now, queue.size()) - numberOf(x, now, queue.size()));
            int load = all.boat;
            List<int[]> goers = new ArrayList<>();
            for (int[] one : sorted) {
                if (load + one[1] <= all.rope && needOf(load + one[1]) <= force) {
                    load += one[1];
                    goers.add(one);
                }
            }
            if (!goers.isEmpty()) {
                went++;
                away = minutesOf(needOf(load), force) + minutesOf(needOf(all.boat), force);
                for (int[] one : goers) {
                    waits.add(minute - one[0]);
                    queue.remove(one);
                }
            }
        }
        int together = waits.stream().mapToInt(Integer::intValue).sum();
        int longest = waits.stream().mapToInt(Integer::intValue).max().orElse(0);
        return new int[] {waits.size(), queue.size(), home, longest, together, went}[what];
    }

    private int numberOf(int[] one, int minute, int queue) {
        int[] parts = {minute - one[0], one[1], queue, minute};
        if (all.rule != null) {
            for (Line line : all.rule) {
                if (line.condition.test(parts)) {
                    return line.number;
                }
            }
        }
        return 0;
    }

    // ---- the image, counts

    void image() {
        kept = all.copy();
    }

    boolean back() {
        if (kept == null) {
            return false;
        }
        all = kept.copy();
        return true;
    }

    int count(int what) {
        int far = 0;
        for (int i = 0; i < all.beings.size(); i++) {
            far |= all.beings.get(i).bank << i;
        }
        int lines = all.rule == null ? NONE : all.rule.size();
        int[] answers = {all.beings.size(), all.texts, all.clock, all.ferry, far, streamNow(),
            all.rope, all.boat, all.wide, lines, all.crossings, all.swims};
        return what >= 0 && what < answers.length ? answers[what] : NONE;
    }
}
