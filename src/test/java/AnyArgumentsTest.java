import java.util.Random;
import java.util.Set;

/** Of all promises: whatever the arguments, a call throws nothing but what the document tells. */
public final class AnyArgumentsTest {
    private static final int[] EDGE = {0, 1, -1, 2, 3, 5, 7, 9, 10, 11, 12, 20, 31, 32, 40, 60, 99, 100,
        400, 401, 600, 601, 1023, 1024, 1033, 1034, 2047, 2048, Integer.MAX_VALUE, Integer.MIN_VALUE,
        Integer.MAX_VALUE - 1, Integer.MIN_VALUE + 1};
    private static final String[] TOLD = {"IndexOutOfBoundsException", "NoSuchElementException",
        "IllegalStateException", "IllegalArgumentException", "UnsupportedOperationException"};
    /** By the number of a call: which of TOLD it may throw, as bits. */
    private static final int[] MAY = {0, 0, 24, 8, 0, 3, 0, 4, 5, 8, 0, 1, 8, 2, 0, 0, 8, 10, 0, 0, 0};

    private final Random random;
    private final RopeFerry ferry = new RopeFerry();

    private AnyArgumentsTest(int seed) {
        random = new Random(seed);
    }

    public static void main(String[] args) {
        for (int seed = 0; seed < 60; seed++) {
            new AnyArgumentsTest(seed).run(seed);
        }
        Checks.finish();
    }

    private void run(int seed) {
        for (int call = 0; call < 1500; call++) {
            if (random.nextInt(40) == 0) {
                tellRight();
            }
            int name = random.nextInt(MAY.length);
            Set<String> thrown = thrownBy(name);
            for (int i = 0; i < TOLD.length; i++) {
                if ((MAY[name] & 1 << i) != 0) {
                    thrown.remove(TOLD[i]);
                }
            }
            Checks.due("run " + seed + ", call " + call + " of " + name + ": " + thrown,
                    thrown.isEmpty(), true);
        }
        Checks.due("texts that were right", ferry.count(1) > 3, true);
    }

    private void tellRight() {
        String[] texts = {"person 9 9 swims;lame 9", "beast 7 30 swims;goods 5;stream 0 1",
            "person 8 80;boat 0;wide 60", "stream 0 0", "apart 0 1;with 0 1", "lame 99;rope 999;person 9 3 swims;beast 5 4"};
        ferry.end(0);
        Checks.tell(ferry, texts[random.nextInt(texts.length)]);
        Set<String> thrown = thrownBy(2);
        thrown.removeAll(Set.of(TOLD));
        Checks.due("a right text: " + thrown, thrown.isEmpty(), true);
    }

    private Set<String> thrownBy(int name) {
        Set<String> thrown = new java.util.TreeSet<>();
        try {
            call(name);
        } catch (Throwable t) {
            thrown.add(t.getClass().getSimpleName());
        }
        return thrown;
    }

    private int any() {
        switch (random.nextInt(4)) {
            case 0:
                return EDGE[random.nextInt(EDGE.length)];
            case 1:
                return random.nextInt();
            default:
                return random.nextInt(12) - 1;
        }
    }

    private void call(int name) {
        switch (name) {
            case 0:
                ferry.feed(any(), 0x20312031, 0x3b706572 * random.nextInt(2), any(), any());
                break;
            case 1:
                ferry.end(any());
                break;
            case 2:
                ferry.river();
                break;
            case 3:
                ferry.rule();
                break;
            case 4:
                ferry.fault();
                break;
            case 5:
                ferry.look(any(), any());
                break;
            case 6:
                ferry.need(any());
                break;
            case 7:
                ferry.cross(any(), any());
                break;
            case 8:
                ferry.swim(any());
                break;
            case 9:
                ferry.rest(any());
                break;
            default:
                callMore(name);
        }
    }

    private void callMore(int name) {
        switch (name) {
            case 10:
                ferry.may(any());
                break;
            case 11:
                ferry.owed(any(), any());
                break;
            case 12:
                ferry.clear(any());
                break;
            case 13:
                ferry.plan(any(), random.nextBoolean(), any());
                break;
            case 14:
                ferry.row(any(), random.nextBoolean(), any());
                break;
            case 15:
                ferry.left();
                break;
            case 16:
                ferry.lost(any());
                break;
            case 17:
                ferry.fair(any(), any(), any(), any(), any());
                break;
            case 18:
                ferry.image();
                break;
            case 19:
                ferry.back();
                break;
            default:
                ferry.count(any());
        }
    }
}
