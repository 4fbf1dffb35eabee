import java.util.Arrays;
import java.util.NoSuchElementException;

/** A rope ferry that is pulled by those who are already over. README.md tells how it is used. */
public final class RopeFerry {
    public static final int NONE = -1;

    private static final int MOST_BEINGS = 10;
    private static final int MOST_TEXTS = 10;
    private static final int MOST_BYTES = 400;
    private static final int FED_BYTES = 20;
    private static final int SETS = 1 << MOST_BEINGS;
    private static final int LONGEST_REST = 600;
    private static final int LONGEST_FAIR = 600;
    private static final int STRONGEST_FAIR = 99;
    private static final int FAIR_ANSWERS = 6;

    private final Tape tape = new Tape();
    private final River told = new River();
    private final River spareRiver = new River();
    private final River keptRiver = new River();
    private final Banks banks = new Banks();
    private final Banks keptBanks = new Banks();
    private final Rule loading = new Rule();
    private final Rule spareRule = new Rule();
    private final Rule keptRule = new Rule();
    private final RiverReader riverReader = new RiverReader(tape, spareRiver);
    private final RuleReader ruleReader = new RuleReader(tape, spareRule);
    private final Moves ways = new Moves(told, banks);
    private final Plans plans = new Plans(ways);
    private final Orders orders = new Orders(ways);
    private final Market market = new Market(ways, loading);
    private boolean imageKept = false;
    private int wrongByte = NONE;

    public RopeFerry() {
    }

    public int feed(int a, int b, int c, int d, int e) {
        if (tape.size + FED_BYTES > MOST_BYTES) {
            return NONE;
        }
        tape.append(a);
        tape.append(b);
        tape.append(c);
        tape.append(d);
        tape.append(e);
        return tape.size;
    }

    public boolean end(int n) {
        if (n < 0 || n > tape.size) {
            return false;
        }
        tape.size = n;
        return true;
    }

    public int river() throws IllegalArgumentException, UnsupportedOperationException {
        // A wrong text must leave nothing behind, so it is read into a copy.
        spareRiver.copyFrom(told);
        tape.split();
        boolean right = riverReader.readText();
        endReading(right);
        if (!right) {
            throw new IllegalArgumentException("the text of the river is wrong");
        }
        if (told.texts >= MOST_TEXTS) {
            throw new UnsupportedOperationException("there are 10 texts");
        }
        told.copyFrom(spareRiver);
        told.texts++;
        return told.texts;
    }

    public int rule() throws IllegalArgumentException {
        tape.split();
        boolean right = ruleReader.readText();
        endReading(right);
        if (!right) {
            throw new IllegalArgumentException("the text of the rule is wrong");
        }
        loading.copyFrom(spareRule);
        return loading.lines;
    }

    public int fault() {
        return wrongByte;
    }

    public int look(int being, int what) throws IndexOutOfBoundsException, NoSuchElementException {
        if (!told.hasBeing(being)) {
            throw new IndexOutOfBoundsException("there is no such being");
        }
        switch (what) {
            case 0:
                return told.kind[being];
            case 1:
                return told.strength[being];
            case 2:
                return told.weight[being];
            case 3:
                return told.swimmers >> being & 1;
            case 4:
                return banks.tired[being];
            case 5:
                return banks.forceOf(being, told);
            case 6:
                return banks.far >> being & 1;
            case 7:
                return banks.balanceOf(being);
            default:
                throw new NoSuchElementException("there is no such answer");
        }
    }

    public int need(int load) {
        ways.prepare();
        return ways.needFor(ways.weightOf[load & ways.everyone]);
    }

    public int cross(int load, int pullers) throws IllegalStateException {
        ways.prepare();
        int minutes = ways.crossing(banks.state(), load, pullers);
        if (minutes == NONE) {
            throw new IllegalStateException("the crossing is refused");
        }
        banks.noteCrossing(load, pullers, told.debtors());
        banks.passMinutes(minutes);
        return minutes;
    }

    public int swim(int being) throws IndexOutOfBoundsException, IllegalStateException {
        if (!told.hasBeing(being)) {
            throw new IndexOutOfBoundsException("there is no such being");
        }
        ways.prepare();
        int minutes = ways.swimming(banks.state(), being);
        if (minutes == NONE) {
            throw new IllegalStateException("the swim is refused");
        }
        banks.noteSwim(being);
        banks.passMinutes(minutes);
        return minutes;
    }

    public int rest(int minutes) throws IllegalArgumentException {
        if (minutes < 1 || minutes > LONGEST_REST) {
            throw new IllegalArgumentException("a rest has 1 to 600 minutes");
        }
        banks.passMinutes(minutes);
        return banks.clock;
    }

    public boolean may(int set) {
        return told.isPeaceful(set & told.everyone());
    }

    public int owed(int first, int second) throws IndexOutOfBoundsException {
        if (!told.hasBeing(first) || !told.hasBeing(second)) {
            throw new IndexOutOfBoundsException("there is no such being");
        }
        return banks.pulls[first][second];
    }

    public int clear(int k) throws IllegalArgumentException {
        if (k < NONE) {
            throw new IllegalArgumentException("there is no payment below none");
        }
        return banks.payment(k);
    }

    public int plan(int set, boolean moves, int what) throws NoSuchElementException {
        if (what != 0 && what != 1) {
            throw new NoSuchElementException("there is no such answer");
        }
        if (!findPlan(set, moves)) {
            return NONE;
        }
        return what == 0 ? plans.minutes() : plans.length();
    }

    public int row(int set, boolean moves, int k) {
        if (!findPlan(set, moves)) {
            return NONE;
        }
        return plans.step(k);
    }

    public int left() {
        ways.prepare();
        return plans.leastLeft(banks.state());
    }

    public int lost(int k) throws IllegalArgumentException {
        boolean isRow = orders.take(tape);
        tape.size = 0;
        if (!isRow || k < NONE) {
            throw new IllegalArgumentException("this is no row of loads, or no place in it");
        }
        ways.prepare();
        return k == NONE ? orders.howMany(banks.state()) : orders.first(banks.state(), k);
    }

    public int fair(int seed, int minutes, int chance, int force, int what)
            throws IllegalArgumentException, NoSuchElementException {
        if (minutes < 0 || minutes > LONGEST_FAIR || chance < 0 || chance > 100
                || force < 1 || force > STRONGEST_FAIR) {
            throw new IllegalArgumentException("there is no such fair");
        }
        if (what < 0 || what >= FAIR_ANSWERS) {
            throw new NoSuchElementException("there is no such answer");
        }
        ways.prepare();
        market.hold(seed, minutes, chance, force);
        return market.answer(what);
    }

    public void image() {
        keptRiver.copyFrom(told);
        keptBanks.copyFrom(banks);
        keptRule.copyFrom(loading);
        imageKept = true;
    }

    public boolean back() {
        if (!imageKept) {
            return false;
        }
        told.copyFrom(keptRiver);
        banks.copyFrom(keptBanks);
        loading.copyFrom(keptRule);
        return true;
    }

    public int count(int what) {
        switch (what) {
            case 0:
                return told.beings;
            case 1:
                return told.texts;
            case 2:
                return banks.clock;
            case 3:
                return banks.ferry;
            case 4:
                return banks.far;
            case 5:
                return told.stream[banks.hour()];
            case 6:
                return told.rope;
            case 7:
                return told.boat;
            case 8:
                return told.wide;
            case 9:
                return loading.lines;
            case 10:
                return banks.crossings;
            case 11:
                return banks.swims;
            default:
                return NONE;
        }
    }

    private void endReading(boolean right) {
        wrongByte = right ? NONE : tape.start();
        tape.size = 0;
    }

    private boolean findPlan(int set, boolean byMoves) {
        ways.prepare();
        return plans.search(banks.state(), set & ways.everyone, byMoves);
    }

    /** What a text is made of: words and signs by their bytes, and three that no bytes tell. */
    private enum Thing {
        END(""), NUMBER(""), WRONG(""),
        PERSON("person"), BEAST("beast"), GOODS("goods"), LAME("lame"), SWIMS("swims"),
        ROPE("rope"), BOAT("boat"), WIDE("wide"), STREAM("stream"),
        APART("apart"), UNLESS("unless"), WITH("with"),
        IF("if"), OR("or"), AND("and"), NOT("not"),
        WAITED("waited"), WEIGHT("weight"), QUEUE("queue"), MINUTE("minute"),
        NEXT_LINE(";"), OPEN("("), CLOSE(")"), LESS("<"), MORE(">"), PLUS("+");

        private static final Thing[] ALL = values();

        private final String text;

        Thing(String text) {
            this.text = text;
        }
    }

    /** The bytes that were fed, and the things that they are read as. */
    private static final class Tape {
        private static final int MOST_DIGITS = 3;

        private final int[] bytes = new int[MOST_BYTES];
        private int size = 0;
        private final Thing[] things = new Thing[MOST_BYTES + 1];
        private final int[] starts = new int[MOST_BYTES + 1];
        private final int[] numbers = new int[MOST_BYTES + 1];
        private int last = 0;
        private int at = 0;

        void append(int four) {
            for (int shift = 24; shift >= 0 && size < MOST_BYTES; shift -= 8) {
                bytes[size] = four >> shift & 255;
                size++;
            }
        }

        /** Parts the whole tape into things, and stands at the first. */
        void split() {
            last = 0;
            at = 0;
            int from = 0;
            while (from < size) {
                int behind = from + 1;
                while (behind < size && goOn(bytes[from], bytes[behind])) {
                    behind++;
                }
                if (bytes[from] != ' ') {
                    putThing(from, behind);
                }
                from = behind;
            }
            things[last] = Thing.END;
            starts[last] = size;
        }

        private void putThing(int from, int behind) {
            if (last >= MOST_BYTES) {
                return;
            }
            starts[last] = from;
            if (isDigit(bytes[from])) {
                boolean fits = behind - from <= MOST_DIGITS;
                things[last] = fits ? Thing.NUMBER : Thing.WRONG;
                numbers[last] = fits ? numberOf(from, behind) : 0;
            } else {
                things[last] = nameOf(from, behind);
            }
            last++;
        }

        private int numberOf(int from, int behind) {
            int number = 0;
            for (int i = from; i < behind; i++) {
                number = 10 * number + bytes[i] - '0';
            }
            return number;
        }

        private Thing nameOf(int from, int behind) {
            for (int i = 0; i < Thing.ALL.length; i++) {
                if (isText(Thing.ALL[i].text, from, behind)) {
                    return Thing.ALL[i];
                }
            }
            return Thing.WRONG;
        }

        private boolean isText(String text, int from, int behind) {
            if (text.length() != behind - from) {
                return false;
            }
            for (int i = from; i < behind; i++) {
                if (text.charAt(i - from) != bytes[i]) {
                    return false;
                }
            }
            return true;
        }

        private static boolean goOn(int first, int next) {
            return isDigit(first) && isDigit(next) || isLetter(first) && isLetter(next);
        }

        private static boolean isDigit(int sign) {
            return sign >= '0' && sign <= '9';
        }

        private static boolean isLetter(int sign) {
            return sign >= 'a' && sign <= 'z';
        }

        Thing thing() {
            return things[at];
        }

        int number() {
            return numbers[at];
        }

        int start() {
            return starts[at];
        }

        /** Goes on by one thing; the end is never left. */
        void next() {
            if (at < last) {
                at++;
            }
        }

        /** Goes on by one thing, if it is this one. */
        boolean take(Thing wanted) {
            if (things[at] != wanted) {
                return false;
            }
            if (at < last) {
                at++;
            }
            return true;
        }
    }

    /** What the texts of the river tell. */
    private static final class River {
        private static final int MOST_PAIRS = 12;
        private static final int HOURS = 24;

        private static final int PERSON = 0;
        private static final int BEAST = 1;
        private static final int GOODS = 2;
        private static final int LAME = 3;

        private int texts = 0;
        private int beings = 0;
        private final int[] kind = new int[MOST_BEINGS];
        private final int[] strength = new int[MOST_BEINGS];
        private final int[] weight = new int[MOST_BEINGS];
        private int swimmers = 0;
        private int rope = 200;
        private int boat = 20;
        private int wide = 10;
        private final int[] stream = new int[HOURS];
        private int aparts = 0;
        private final int[] apartPair = new int[MOST_PAIRS];
        private final int[] apartUnless = new int[MOST_PAIRS];
        private int withs = 0;
        private final int[] company = new int[MOST_BEINGS];

        River() {
            Arrays.fill(stream, 2);
        }

        void copyFrom(River other) {
            texts = other.texts;
            beings = other.beings;
            System.arraycopy(other.kind, 0, kind, 0, MOST_BEINGS);
            System.arraycopy(other.strength, 0, strength, 0, MOST_BEINGS);
            System.arraycopy(other.weight, 0, weight, 0, MOST_BEINGS);
            swimmers = other.swimmers;
            rope = other.rope;
            boat = other.boat;
            wide = other.wide;
            System.arraycopy(other.stream, 0, stream, 0, HOURS);
            aparts = other.aparts;
            System.arraycopy(other.apartPair, 0, apartPair, 0, MOST_PAIRS);
            System.arraycopy(other.apartUnless, 0, apartUnless, 0, MOST_PAIRS);
            withs = other.withs;
            System.arraycopy(other.company, 0, company, 0, MOST_BEINGS);
        }

        boolean hasBeing(int being) {
            return being >= 0 && being < beings;
        }

        int everyone() {
            return (1 << beings) - 1;
        }

        /** Those who owe for being pulled: each person and lame. */
        int debtors() {
            int set = 0;
            for (int being = 0; being < beings; being++) {
                if (kind[being] == PERSON || kind[being] == LAME) {
                    set |= 1 << being;
                }
            }
            return set;
        }

        boolean isPeaceful(int set) {
            for (int i = 0; i < aparts; i++) {
                if ((set & apartPair[i]) == apartPair[i] && (set & apartUnless[i]) == 0) {
                    return false;
                }
            }
            return true;
        }

        boolean addBeing(int newKind, int newStrength, int newWeight, boolean swims) {
            if (beings >= MOST_BEINGS) {
                return false;
            }
            kind[beings] = newKind;
            strength[beings] = newStrength;
            weight[beings] = newWeight;
            swimmers |= swims ? 1 << beings : 0;
            beings++;
            return true;
        }

        boolean addApart(int pair, int unless) {
            if (aparts >= MOST_PAIRS) {
                return false;
            }
            apartPair[aparts] = pair;
            apartUnless[aparts] = unless;
            aparts++;
            return true;
        }

        boolean addWith(int being, int companion) {
            if (withs >= MOST_PAIRS || !hasBeing(being)) {
                return false;
            }
            company[being] |= 1 << companion;
            withs++;
            return true;
        }

        void setStream(int fromHour, int strong) {
            for (int hour = Math.max(fromHour, 0); hour < HOURS; hour++) {
                stream[hour] = strong;
            }
        }
    }

    /** Reads a text of the river; where it is wrong, the tape stands at the first wrong thing. */
    private static final class RiverReader {
        private static final int MOST_LINES = 14;

        private final Tape tape;
        private final River river;

        RiverReader(Tape tape, River river) {
            this.tape = tape;
            this.river = river;
        }

        boolean readText() {
            if (tape.thing() == Thing.END) {
                return true;
            }
            for (int line = 0; line < MOST_LINES; line++) {
                if (!readLine()) {
                    return false;
                }
                if (tape.thing() == Thing.END) {
                    return true;
                }
                if (!tape.take(Thing.NEXT_LINE)) {
                    return false;
                }
            }
            return false;
        }

        private boolean readLine() {
            Thing first = tape.thing();
            int kind = kindOf(first);
            if (kind != NONE) {
                return readBeing(kind);
            }
            if (first == Thing.APART) {
                return readApart();
            }
            if (first == Thing.WITH) {
                return readWith();
            }
            if (first == Thing.STREAM) {
                return readStream();
            }
            return readMeasure(first);
        }

        private static int kindOf(Thing thing) {
            if (thing == Thing.PERSON) {
                return River.PERSON;
            }
            if (thing == Thing.BEAST) {
                return River.BEAST;
            }
            if (thing == Thing.GOODS) {
                return River.GOODS;
            }
            return thing == Thing.LAME ? River.LAME : NONE;
        }

        private boolean readBeing(int kind) {
            if (river.beings >= MOST_BEINGS) {
                return false;
            }
            tape.next();
            boolean strong = kind == River.PERSON || kind == River.BEAST;
            int strength = strong ? readNumber(0, 9) : 0;
            if (strength == NONE) {
                return false;
            }
            int weight = readNumber(1, 99);
            if (weight == NONE) {
                return false;
            }
            boolean swims = strong && tape.take(Thing.SWIMS);
            return river.addBeing(kind, strength, weight, swims);
        }

        private boolean readApart() {
            if (river.aparts >= River.MOST_PAIRS) {
                return false;
            }
            tape.next();
            int first = readOther(0);
            if (first == NONE) {
                return false;
            }
            int second = readOther(1 << first);
            if (second == NONE) {
                return false;
            }
            int pair = 1 << first | 1 << second;
            if (!tape.take(Thing.UNLESS)) {
                return river.addApart(pair, 0);
            }
            int unless = readOther(pair);
            return unless != NONE && river.addApart(pair, 1 << unless);
        }

        private boolean readWith() {
            if (river.withs >= River.MOST_PAIRS) {
                return false;
            }
            tape.next();
            int being = readOther(0);
            if (being == NONE) {
                return false;
            }
            int companion = readOther(1 << being);
            return companion != NONE && river.addWith(being, companion);
        }

        private boolean readStream() {
            tape.next();
            int hour = readNumber(0, River.HOURS - 1);
            if (hour == NONE) {
                return false;
            }
            int strong = readNumber(0, 9);
            if (strong == NONE) {
                return false;
            }
            river.setStream(hour, strong);
            return true;
        }

        private boolean readMeasure(Thing measure) {
            boolean rope = measure == Thing.ROPE;
            boolean boat = measure == Thing.BOAT;
            if (!rope && !boat && measure != Thing.WIDE) {
                return false;
            }
            tape.next();
            int number = rope ? readNumber(1, 999) : boat ? readNumber(0, 99) : readNumber(1, 60);
            if (number == NONE) {
                return false;
            }
            if (rope) {
                river.rope = number;
            } else if (boat) {
                river.boat = number;
            } else {
                river.wide = number;
            }
            return true;
        }

        /** A being that there is and that is not among those told before; NONE, and it stays there. */
        private int readOther(int before) {
            if (tape.thing() == Thing.NUMBER && river.hasBeing(tape.number())
                    && (before >> tape.number() & 1) == 0) {
                return readNumber(0, MOST_BEINGS - 1);
            }
            return NONE;
        }

        private int readNumber(int least, int most) {
            int number = tape.number();
            if (tape.thing() != Thing.NUMBER || number < least || number > most) {
                return NONE;
            }
            tape.next();
            return number;
        }
    }

    /** The rule of loading: its lines, each a number and a condition kept as steps on a stack. */
    private static final class Rule {
        private static final int MOST_LINES = 12;
        private static final int STACK = 40;

        /** A step from 0 on is a number; these tell the rest. */
        private static final int WAITED = -1;
        private static final int WEIGHT = -2;
        private static final int QUEUE = -3;
        private static final int MINUTE = -4;
        private static final int NOT = -5;
        private static final int PLUS = -6;
        private static final int LESS = -7;
        private static final int MORE = -8;
        private static final int AND = -9;
        private static final int OR = -10;

        private int lines = NONE;
        private final int[] numbers = new int[MOST_LINES];
        private final int[] ends = new int[MOST_LINES];
        private final int[] steps = new int[MOST_BYTES];
        private int size = 0;
        private final int[] stack = new int[STACK];
        private int waited = 0;
        private int weight = 0;
        private int queue = 0;
        private int minute = 0;

        void copyFrom(Rule other) {
            lines = other.lines;
            size = other.size;
            System.arraycopy(other.numbers, 0, numbers, 0, MOST_LINES);
            System.arraycopy(other.ends, 0, ends, 0, MOST_LINES);
            System.arraycopy(other.steps, 0, steps, 0, MOST_BYTES);
        }

        void begin() {
            lines = 0;
            size = 0;
        }

        void putStep(int step) {
            if (size < MOST_BYTES) {
                steps[size] = step;
                size++;
            }
        }

        void endLine(int number) {
            if (lines >= 0 && lines < MOST_LINES) {
                numbers[lines] = number;
                ends[lines] = size;
                lines++;
            }
        }

        /** What the queue and the minute are, for all who are asked about next. */
        void setHour(int waiting, int now) {
            queue = waiting;
            minute = now;
        }

        /** The number of one who waits, by the first line that holds. */
        int numberOf(int waitedMinutes, int ownWeight) {
            waited = waitedMinutes;
            weight = ownWeight;
            int from = 0;
            for (int line = 0; line < lines; line++) {
                if (holds(from, ends[line])) {
                    return numbers[line];
                }
                from = ends[line];
            }
            return 0;
        }

        private boolean holds(int from, int behind) {
            int depth = 0;
            for (int i = from; i < behind; i++) {
                depth = doStep(steps[i], depth);
            }
            return depth == 0 || stack[0] != 0;
        }

        private int doStep(int step, int depth) {
            if (step > NOT) {
                if (depth >= STACK) {
                    return depth;
                }
                stack[depth] = partOf(step);
                return depth + 1;
            }
            if (step == NOT && depth >= 1) {
                stack[depth - 1] = 1 - stack[depth - 1];
            }
            if (step == NOT || depth < 2) {
                return depth;
            }
            stack[depth - 2] = join(step, stack[depth - 2], stack[depth - 1]);
            return depth - 1;
        }

        private int partOf(int step) {
            switch (step) {
                case WAITED:
                    return waited;
                case WEIGHT:
                    return weight;
                case QUEUE:
                    return queue;
                case MINUTE:
                    return minute;
                default:
                    return step;
            }
        }

        private static int join(int step, int one, int other) {
            switch (step) {
                case PLUS:
                    return one + other;
                case LESS:
                    return one < other ? 1 : 0;
                case MORE:
                    return one > other ? 1 : 0;
                case AND:
                    return one & other;
                default:
                    return one | other;
            }
        }
    }

    /** Reads a text of the rule; where it is wrong, the tape stands at the first wrong thing. */
    private static final class RuleReader {
        private static final int DEEPEST = 6;
        private static final int NO_PART = -100;

        private final Tape tape;
        private final Rule rule;

        RuleReader(Tape tape, Rule rule) {
            this.tape = tape;
            this.rule = rule;
        }

        boolean readText() {
            rule.begin();
            if (tape.thing() == Thing.END) {
                return true;
            }
            for (int line = 0; line < Rule.MOST_LINES; line++) {
                if (!readLine()) {
                    return false;
                }
                if (tape.thing() == Thing.END) {
                    return true;
                }
                if (!tape.take(Thing.NEXT_LINE)) {
                    return false;
                }
            }
            return false;
        }

        private boolean readLine() {
            int number = tape.number();
            if (!tape.take(Thing.NUMBER)) {
                return false;
            }
            if (tape.take(Thing.IF) && !readAny(0)) {
                return false;
            }
            rule.endLine(number);
            return true;
        }

        private boolean readAny(int depth) {
            for (int read = 0; read < MOST_BYTES; read++) {
                if (!readAll(depth)) {
                    return false;
                }
                if (read > 0) {
                    rule.putStep(Rule.OR);
                }
                if (!tape.take(Thing.OR)) {
                    return true;
                }
            }
            return false;
        }

        private boolean readAll(int depth) {
            for (int read = 0; read < MOST_BYTES; read++) {
                if (!readAtom(depth)) {
                    return false;
                }
                if (read > 0) {
                    rule.putStep(Rule.AND);
                }
                if (!tape.take(Thing.AND)) {
                    return true;
                }
            }
            return false;
        }

        /** The depth is how many ( and not are open round this one. */
        private boolean readAtom(int depth) {
            Thing first = tape.thing();
            if ((first == Thing.NOT || first == Thing.OPEN) && depth >= DEEPEST) {
                return false;
            }
            if (tape.take(Thing.OPEN)) {
                return readAny(depth + 1) && tape.take(Thing.CLOSE);
            }
            if (tape.take(Thing.NOT)) {
                boolean right = readAtom(depth + 1);
                rule.putStep(Rule.NOT);
                return right;
            }
            if (!readSum()) {
                return false;
            }
            Thing sign = tape.thing();
            if (sign != Thing.LESS && sign != Thing.MORE) {
                return false;
            }
            tape.next();
            if (!readSum()) {
                return false;
            }
            rule.putStep(sign == Thing.LESS ? Rule.LESS : Rule.MORE);
            return true;
        }

        private boolean readSum() {
            for (int read = 0; read < MOST_BYTES; read++) {
                int part = partOf(tape.thing(), tape.number());
                if (part == NO_PART) {
                    return false;
                }
                tape.next();
                rule.putStep(part);
                if (read > 0) {
                    rule.putStep(Rule.PLUS);
                }
                if (!tape.take(Thing.PLUS)) {
                    return true;
                }
            }
            return false;
        }

        private static int partOf(Thing thing, int number) {
            if (thing == Thing.NUMBER) {
                return number;
            }
            if (thing == Thing.WAITED) {
                return Rule.WAITED;
            }
            if (thing == Thing.WEIGHT) {
                return Rule.WEIGHT;
            }
            if (thing == Thing.QUEUE) {
                return Rule.QUEUE;
            }
            return thing == Thing.MINUTE ? Rule.MINUTE : NO_PART;
        }
    }

    /** Who and what is where, how tired, at what minute, and who owes whom. */
    private static final class Banks {
        private static final int HOUR = 60;

        private int far = 0;
        private int ferry = 0;
        private int clock = 0;
        private int crossings = 0;
        private int swims = 0;
        private final int[] tired = new int[MOST_BEINGS];
        private final int[][] pulls = new int[MOST_BEINGS][MOST_BEINGS];
        private final int[] balances = new int[MOST_BEINGS];

        void copyFrom(Banks other) {
            far = other.far;
            ferry = other.ferry;
            clock = other.clock;
            crossings = other.crossings;
            swims = other.swims;
            System.arraycopy(other.tired, 0, tired, 0, MOST_BEINGS);
            for (int being = 0; being < MOST_BEINGS; being++) {
                System.arraycopy(other.pulls[being], 0, pulls[being], 0, MOST_BEINGS);
            }
        }

        /** Who is far, and where the ferry is, as one number. */
        int state() {
            return far << 1 | ferry;
        }

        int hour() {
            return Math.floorMod(clock / HOUR, River.HOURS);
        }

        int forceOf(int being, River river) {
            return Math.max(0, river.strength[being] - tired[being]);
        }

        void noteCrossing(int load, int pullers, int debtors) {
            far ^= load;
            ferry ^= 1;
            crossings++;
            for (int puller = 0; puller < MOST_BEINGS; puller++) {
                if ((pullers >> puller & 1) != 0) {
                    tired[puller]++;
                    notePulls(load & debtors, puller);
                }
            }
        }

        private void notePulls(int pulled, int puller) {
            for (int being = 0; being < MOST_BEINGS; being++) {
                pulls[being][puller] += pulled >> being & 1;
            }
        }

        void noteSwim(int being) {
            far ^= 1 << being;
            swims++;
            tired[being] += 2;
        }

        void passMinutes(int minutes) {
            int hours = (clock + minutes) / HOUR - clock / HOUR;
            clock += minutes;
            for (int being = 0; being < MOST_BEINGS; being++) {
                tired[being] = Math.max(0, tired[being] - hours);
            }
        }

        int balanceOf(int being) {
            int balance = 0;
            for (int other = 0; other < MOST_BEINGS; other++) {
                balance += pulls[other][being] - pulls[being][other];
            }
            return balance;
        }

        /** The k-th payment, or for NONE how many there are. */
        int payment(int k) {
            for (int being = 0; being < MOST_BEINGS; being++) {
                balances[being] = balanceOf(being);
            }
            // Each payment brings one balance to 0 at least, so there are fewer than beings.
            int paid = 0;
            for (int round = 0; round < MOST_BEINGS; round++) {
                int payee = greatest();
                int payer = least();
                int much = Math.min(balances[payee], -balances[payer]);
                if (much <= 0) {
                    break;
                }
                if (paid == k) {
                    return 10000 * payer + 100 * payee + much % 100;
                }
                balances[payee] -= much;
                balances[payer] += much;
                paid++;
            }
            return k == NONE ? paid : NONE;
        }

        private int greatest() {
            int best = 0;
            for (int being = 1; being < MOST_BEINGS; being++) {
                if (balances[being] > balances[best]) {
                    best = being;
                }
            }
            return best;
        }

        private int least() {
            int best = 0;
            for (int being = 1; being < MOST_BEINGS; being++) {
                if (balances[being] < balances[best]) {
                    best = being;
                }
            }
            return best;
        }
    }

    /**
     * What goes and what is refused, by the stream and the forces of now. A state is who is far,
     * twice, and the ferry's bank; a move is a load, or SWIM and who swims.
     */
    private static final class Moves {
        private static final int SWIM = SETS;
        private static final int STATES = 2 * SETS;
        private static final int MOST_MOVES = SETS + MOST_BEINGS;

        private final River river;
        private final Banks banks;
        private int everyone = 0;
        private int stream = 0;
        private final int[] weightOf = new int[SETS];
        private final int[] forceOf = new int[SETS];
        private final int[] companyOf = new int[SETS];
        private final boolean[] peaceful = new boolean[SETS];
        private final int[] listed = new int[MOST_MOVES];
        private final int[] listedMinutes = new int[MOST_MOVES];
        private int listSize = 0;

        Moves(River river, Banks banks) {
            this.river = river;
            this.banks = banks;
        }

        /** Looks at the river and the banks as they are now; what follows goes by that. */
        void prepare() {
            everyone = river.everyone();
            stream = river.stream[banks.hour()];
            for (int being = 0; being < river.beings; being++) {
                prepareBeing(being, banks.forceOf(being, river));
            }
            for (int set = 0; set <= everyone && set < SETS; set++) {
                peaceful[set] = river.isPeaceful(set);
            }
        }

        /** Tells the sums of all sets of which this being is the last, by those without it. */
        private void prepareBeing(int being, int force) {
            int bit = 1 << being;
            for (int set = 0; set < bit && (bit | set) < SETS; set++) {
                weightOf[bit | set] = weightOf[set] + river.weight[being];
                forceOf[bit | set] = forceOf[set] + force;
                companyOf[bit | set] = companyOf[set] | river.company[being];
            }
        }

        int needFor(int weight) {
            return stream + (weight + river.boat + 19) / 20;
        }

        boolean ropeBears(int weight) {
            return weight + river.boat <= river.rope;
        }

        /** NONE without force. */
        int minutesFor(int need, int force) {
            if (force <= 0) {
                return NONE;
            }
            int minutes = (river.wide * need + force - 1) / force;
            return minutes < 1 ? 1 : minutes;
        }

        private int here(int state) {
            return ((state & 1) != 0 ? state >> 1 : ~(state >> 1)) & everyone;
        }

        /** The minutes of a crossing, or NONE, if it is refused. */
        int crossing(int state, int load, int pullers) {
            int here = here(state);
            int there = everyone & ~here;
            if ((load & ~here) != 0 || (pullers & ~there) != 0) {
                return NONE;
            }
            int need = needFor(weightOf[load]);
            int force = forceOf[pullers];
            if (!ropeBears(weightOf[load]) || force < need) {
                return NONE;
            }
            if ((companyOf[load] & ~load) != 0 || !keepsPeace(here, there, load)) {
                return NONE;
            }
            return minutesFor(need, force);
        }

        /** The minutes of a swim, or NONE, if it is refused. */
        int swimming(int state, int being) {
            if (!river.hasBeing(being)) {
                return NONE;
            }
            int bit = 1 << being;
            int far = state >> 1 & everyone;
            int from = (far & bit) != 0 ? far : everyone & ~far;
            if ((river.swimmers & bit) == 0 || forceOf[bit] < stream || companyOf[bit] != 0
                    || !keepsPeace(from, everyone & ~from, bit)) {
                return NONE;
            }
            return river.wide + stream;
        }

        /** While some go, they are on no bank, and the other bank is as it was. */
        private boolean keepsPeace(int from, int to, int going) {
            return peaceful[from & ~going] && peaceful[to] && peaceful[to | going];
        }

        /** A crossing as a move. All there may pull: those without force add nothing. */
        int ferrying(int state, int load) {
            return crossing(state, load, everyone & ~here(state));
        }

        int behind(int state, int move) {
            return move >= SWIM ? state ^ (2 << (move - SWIM)) : state ^ (move << 1 | 1);
        }

        /** Lists all moves that a state has, in their order, with their minutes. */
        void list(int state) {
            listSize = 0;
            int here = here(state);
            int load = 0;
            for (int more = 1 << Integer.bitCount(here); more > 0; more--) {
                putMove(load, ferrying(state, load));
                // The next greater set of those who are here alone.
                load = (load - here) & here;
            }
            for (int being = 0; being < river.beings; being++) {
                putMove(SWIM + being, swimming(state, being));
            }
        }

        private void putMove(int move, int minutes) {
            if (minutes != NONE && listSize < MOST_MOVES) {
                listed[listSize] = move;
                listedMinutes[listSize] = minutes;
                listSize++;
            }
        }
    }

    /** Finds the cheapest ways through the states. A cost is minutes and moves in one number. */
    private static final class Plans {
        private static final int STATES = Moves.STATES;
        // A way has fewer moves than states, of 69 minutes at the most: so neither part runs over.
        private static final int MOVE_PART = 1 << 12;
        private static final int MINUTE_PART = 1 << 18;
        private static final int NOT_REACHED = 0x7fffffff;
        // A bit of no being: all states are gone through in vain.
        private static final int NO_GOAL = SETS;

        private final Moves moves;
        private final int[] cost = new int[STATES];
        private final int[] open = new int[STATES];
        private final int[] settled = new int[STATES];
        private final boolean[] onPlan = new boolean[STATES];
        private int openSize = 0;
        private int settledSize = 0;
        private int start = 0;
        private int goal = 0;
        private boolean byMoves = false;
        private int best = NONE;

        Plans(Moves moves) {
            this.moves = moves;
        }

        /** Looks for the plan for a set; false, if there is none. */
        boolean search(int from, int set, boolean fewestMoves) {
            start = from;
            goal = set;
            byMoves = fewestMoves;
            best = NONE;
            openSize = 0;
            settledSize = 0;
            Arrays.fill(cost, NOT_REACHED);
            reach(start, 0);
            for (int round = 0; round < STATES && openSize > 0; round++) {
                int state = takeCheapest();
                if (best != NONE && cost[state] > best) {
                    break;
                }
                settled[settledSize] = state;
                settledSize++;
                if (isGoal(state)) {
                    best = cost[state];
                } else {
                    spread(state);
                }
            }
            return best != NONE;
        }

        int minutes() {
            return byMoves ? best % MINUTE_PART : best / MOVE_PART;
        }

        int length() {
            return byMoves ? best / MINUTE_PART : best % MOVE_PART;
        }

        /** The k-th move of the plan that was found. */
        int step(int k) {
            markPlans();
            int state = start;
            for (int n = 0; n < STATES && !isGoal(state); n++) {
                int move = firstOnPlan(state);
                if (n == k || move == NONE) {
                    return move;
                }
                state = moves.behind(state, move);
            }
            return NONE;
        }

        int leastLeft(int from) {
            search(from, NO_GOAL, true);
            int least = moves.everyone;
            for (int i = 0; i < settledSize; i++) {
                int left = moves.everyone & ~(settled[i] >> 1);
                int more = Integer.compare(Integer.bitCount(left), Integer.bitCount(least));
                if (more < 0 || more == 0 && left < least) {
                    least = left;
                }
            }
            return least;
        }

        private boolean isGoal(int state) {
            return (state >> 1 & goal) == goal;
        }

        private int price(int minutes) {
            return byMoves ? MINUTE_PART + minutes : MOVE_PART * minutes + 1;
        }

        private void reach(int state, int newCost) {
            if (newCost >= cost[state]) {
                return;
            }
            if (cost[state] == NOT_REACHED && openSize < STATES) {
                open[openSize] = state;
                openSize++;
            }
            cost[state] = newCost;
        }

        private int takeCheapest() {
            int best = 0;
            for (int i = 1; i < openSize; i++) {
                if (cost[open[i]] < cost[open[best]]) {
                    best = i;
                }
            }
            int state = open[best];
            openSize--;
            open[best] = open[openSize];
            return state;
        }

        private void spread(int state) {
            moves.list(state);
            for (int i = 0; i < moves.listSize; i++) {
                int next = moves.behind(state, moves.listed[i]);
                reach(next, cost[state] + price(moves.listedMinutes[i]));
            }
        }

        /** Marks the states of all best plans, from the goals on backwards. */
        private void markPlans() {
            for (int state = 0; state < STATES; state++) {
                onPlan[state] = false;
            }
            for (int i = settledSize - 1; i >= 0; i--) {
                int state = settled[i];
                onPlan[state] = isGoal(state) || firstOnPlan(state) != NONE;
            }
        }

        /** The first move of a state by which a best plan goes on. */
        private int firstOnPlan(int state) {
            moves.list(state);
            for (int i = 0; i < moves.listSize; i++) {
                int next = moves.behind(state, moves.listed[i]);
                if (onPlan[next] && cost[next] == cost[state] + price(moves.listedMinutes[i])) {
                    return moves.listed[i];
                }
            }
            return NONE;
        }
    }

    /** Loads of crossings whose order is lost. */
    private static final class Orders {
        private static final int MOST_LOADS = 6;
        private static final int ZERO = 48;
        private static final int HALF = 5;

        private final Moves moves;
        private final int[] loads = new int[MOST_LOADS];
        private int size = 0;

        Orders(Moves moves) {
            this.moves = moves;
        }

        /** Takes the loads from the tape; false, if it is no such row. */
        boolean take(Tape tape) {
            if (tape.size < 2 || tape.size > 2 * MOST_LOADS || tape.size % 2 != 0) {
                return false;
            }
            size = tape.size / 2;
            for (int i = 0; i < size; i++) {
                int low = tape.bytes[2 * i] - ZERO;
                int high = tape.bytes[2 * i + 1] - ZERO;
                if (low < 0 || low >= 1 << HALF || high < 0 || high >= 1 << HALF) {
                    return false;
                }
                loads[i] = high << HALF | low;
            }
            return true;
        }

        /** In how many orders all the loads can follow. */
        int howMany(int from) {
            return ordersFrom(from, 0);
        }

        /** The k-th number of the first order, or NONE. */
        int first(int from, int k) {
            int state = from;
            int used = 0;
            for (int place = 0; place < size; place++) {
                int next = firstNext(state, used);
                if (place == k || next == NONE) {
                    return next;
                }
                state = moves.behind(state, loads[next]);
                used |= 1 << next;
            }
            return NONE;
        }

        private int firstNext(int state, int used) {
            for (int i = 0; i < size; i++) {
                if (ordersThrough(state, used, i) > 0) {
                    return i;
                }
            }
            return NONE;
        }

        /** Of the loads that are not used; each level uses one more, so there are few levels. */
        private int ordersFrom(int state, int used) {
            if (used == (1 << size) - 1) {
                return 1;
            }
            int orders = 0;
            for (int i = 0; i < size; i++) {
                orders += ordersThrough(state, used, i);
            }
            return orders;
        }

        /** Of the loads that are not used, with this one the next; none, if it cannot be that. */
        private int ordersThrough(int state, int used, int i) {
            if ((used >> i & 1) != 0 || moves.ferrying(state, loads[i]) == NONE) {
                return 0;
            }
            return ordersFrom(moves.behind(state, loads[i]), used | 1 << i);
        }
    }

    /** A fair by draws: who comes, who waits, and how the ferry goes and comes. */
    private static final class Market {
        private static final int MOST_WAITING = 40;

        private final Moves moves;
        private final Rule rule;
        private final int[] came = new int[MOST_WAITING];
        private final int[] weight = new int[MOST_WAITING];
        private final int[] number = new int[MOST_WAITING];
        private final boolean[] asked = new boolean[MOST_WAITING];
        private final boolean[] aboard = new boolean[MOST_WAITING];
        private int waiting = 0;
        private int seed = 0;
        private int wentOver = 0;
        private int wentHome = 0;
        private int longest = 0;
        private int together = 0;
        private int trips = 0;

        Market(Moves moves, Rule rule) {
            this.moves = moves;
            this.rule = rule;
        }

        void hold(int firstSeed, int minutes, int chance, int force) {
            begin(firstSeed);
            int backAt = 0;
            for (int minute = 0; minute < minutes; minute++) {
                if (draw() % 100 < chance) {
                    comeOne(minute, 10 * (draw() % 9 + 1));
                }
                if (minute >= backAt && waiting > 0) {
                    backAt = minute + minutesAway(minute, force);
                }
            }
        }

        int answer(int what) {
            switch (what) {
                case 0:
                    return wentOver;
                case 1:
                    return waiting;
                case 2:
                    return wentHome;
                case 3:
                    return longest;
                case 4:
                    return together;
                default:
                    return trips;
            }
        }

        private void begin(int firstSeed) {
            seed = firstSeed;
            waiting = 0;
            wentOver = 0;
            wentHome = 0;
            longest = 0;
            together = 0;
            trips = 0;
        }

        private int draw() {
            seed = 1103515245 * seed + 12345;
            return seed >> 16 & 0x7fff;
        }

        private void comeOne(int minute, int newWeight) {
            if (waiting >= MOST_WAITING) {
                wentHome++;
                return;
            }
            came[waiting] = minute;
            weight[waiting] = newWeight;
            waiting++;
        }

        /** Loads the ferry; how long it is away, 0 if none goes on. */
        private int minutesAway(int minute, int force) {
            giveNumbers(minute);
            int load = 0;
            for (int turn = 0; turn < waiting; turn++) {
                int next = nextToAsk();
                asked[next] = true;
                if (bears(load + weight[next], force)) {
                    aboard[next] = true;
                    load += weight[next];
                }
            }
            if (load == 0) {
                return 0;
            }
            leave(minute);
            trips++;
            return moves.minutesFor(moves.needFor(load), force)
                    + moves.minutesFor(moves.needFor(0), force);
        }

        private void giveNumbers(int minute) {
            rule.setHour(waiting, minute);
            for (int i = 0; i < waiting; i++) {
                number[i] = rule.numberOf(minute - came[i], weight[i]);
                asked[i] = false;
                aboard[i] = false;
            }
        }

        /** The greatest number of those not asked yet, of several who came first. */
        private int nextToAsk() {
            int best = NONE;
            for (int i = 0; i < waiting; i++) {
                if (!asked[i] && (best == NONE || number[i] > number[best])) {
                    best = i;
                }
            }
            return Math.max(best, 0);
        }

        private boolean bears(int load, int force) {
            return moves.ropeBears(load) && moves.needFor(load) <= force;
        }

        /** Those aboard leave; the others keep their order. */
        private void leave(int minute) {
            int stay = 0;
            for (int i = 0; i < waiting; i++) {
                if (aboard[i]) {
                    int waited = minute - came[i];
                    wentOver++;
                    together += waited;
                    longest = Math.max(longest, waited);
                } else {
                    came[stay] = came[i];
                    weight[stay] = weight[i];
                    stay++;
                }
            }
            waiting = stay;
        }
    }
}
