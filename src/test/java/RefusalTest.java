import java.util.Random;

/**
 * For all arguments in all states nothing is thrown, what is refused changes nothing that can be asked for,
 * and a second object that hears the same calls answers the same.
 */
public final class RefusalTest {
    private static final Due due = new Due("RefusalTest");
    private static final int[] EDGES = {-1, -2, 7, 8, 9, 10, 11, 60, 61, 99, 100, 120, 255, 256,
        Integer.MAX_VALUE, Integer.MIN_VALUE, Integer.MAX_VALUE - 3};
    private static final int CALLS = 512;

    private final Random random;
    private final int people;

    private RefusalTest(int seed) {
        random = new Random(seed);
        people = seed % 8;
    }

    public static void main(String[] args) {
        for (int seed = 0; seed < 300; seed++) {
            new RefusalTest(seed).run(seed);
        }
        due.end();
    }

    private void run(int seed) {
        OpenOrTake x = new OpenOrTake();
        OpenOrTake twin = new OpenOrTake();
        for (int i = 0; i < people; i++) {
            x.person(i % 3);
            twin.person(i % 3);
        }
        for (int i = 0; i < CALLS - people; i++) {
            int call = random.nextInt(37);
            int[] a = {arg(call), arg(call), arg(call), arg(call), arg(call)};
            String said = "seed " + seed + " call " + i + " of " + call + " " + java.util.Arrays.toString(a);
            long before = i % 8 == 0 ? told(x) : 0;
            try {
                long answer = call(x, call, a);
                due.is(said + " of the twin", call(twin, call, a), answer);
                if (i % 8 == 0 && isRefusal(call, answer)) {
                    due.is(said + " changed something", told(x), before);
                }
            } catch (RuntimeException thrown) {
                due.is(said + " threw " + thrown, 1, 0);
                return;
            }
        }
        due.is("told alike", told(x), told(twin));
    }

    /** law() empties the tape and act() the trace whatever they answer; shift() to or fro may answer any n. */
    private static boolean isRefusal(int call, long answer) {
        boolean code = answer < 0 && answer >= -14;
        return call != 6 && call != 27 && call != 32 && code;
    }

    private int arg(int call) {
        int sort = random.nextInt(10);
        if (sort == 0) {
            return EDGES[random.nextInt(EDGES.length)];
        }
        if (sort < 3) {
            return random.nextInt(70);
        }
        return call == 5 ? "wxtlor123;?|&<=>+-*/%!()".charAt(random.nextInt(24)) : random.nextInt(6);
    }

    private static long told(OpenOrTake x) {
        long sum = 17;
        for (int what = 0; what <= 6; what++) {
            sum = 31 * sum + x.count(what);
        }
        for (int pn = 0; pn < 70; pn++) {
            sum = 31 * (31 * sum + x.of(pn, 0)) + x.of(pn, 1);
        }
        for (int i = 0; i < 7; i++) {
            sum = 31 * (31 * sum + x.of(i, 2)) + x.of(i, 10);
            sum = 31 * (31 * (31 * sum + x.of(i, 11)) + x.of(i, 12)) + x.of(i, 13);
        }
        sum = 31 * (31 * sum + x.of(0, 3)) + x.of(0, 4);
        sum = 31 * (31 * (31 * (31 * sum + x.led(0)) + x.led(1)) + x.led(2)) + x.turn();
        for (int i = 0; i < 24; i++) {
            sum = 31 * sum + x.trace(i);
        }
        for (int shelf = 0; shelf < 6; shelf++) {
            sum = 31 * sum + x.taken(shelf, 0);
            for (int i = 0; i <= 60; i++) {
                sum = 31 * sum + x.element(shelf, i);
            }
        }
        return 31 * (31 * sum + x.evening(0, 1)) + x.evening(0, 2);
    }

    private static long call(OpenOrTake x, int call, int[] a) {
        switch (call) {
            case 0: return x.person(a[0]);
            case 1: return x.people(a[0], a[1], a[2]);
            case 2: return x.mend(a[0] < 7 && a[0] >= 0 ? 10 * a[0] + a[3] : a[0], a[1], a[2]);
            case 3: return x.of(a[0], a[1]);
            case 4: return x.swap(a[0]);
            case 5: return x.feed(a[0]);
            case 6: return x.law();
            case 7: return x.turn();
            case 8: return x.open();
            case 9: return x.take(a[0]);
            case 10: return x.goOn();
            case 11: return x.again();
            case 12: return x.anew();
            case 13: return x.led(a[0]);
            case 14: return x.evening(a[0], a[1]);
            case 15: return x.exact(a[0]);
            case 16: return x.best(a[0]);
            case 17: return x.pairs();
            case 18: return x.face(a[0]);
            case 19: return x.numbers(a[0], a[1], a[2]);
            case 20: return x.judge(a[0]);
            case 21: return x.judge(a[0] % 6);
            case 22: return x.image();
            case 23: return x.back();
            case 24: return x.undo();
            case 25: return x.redo();
            case 26: return x.body(a[0]);
            case 27: return x.act(a[0], a[1], a[2]);
            case 28: return x.trace(a[0]);
            case 29: return x.keep(a[0], a[1]);
            case 30: return x.row(a[0], a[1] % 2 == 0 ? a[1] : 0, a[2]);
            case 31: return x.put(a[0], a[1], a[2]);
            case 32: return x.shift(a[0], a[1], a[2], a[3], a[4]);
            case 33: return x.element(a[0], a[1]);
            case 34: return x.taken(a[0], a[1]);
            case 35: return x.count(a[0]);
            default: return a[1] == 3 ? x.lots(a[0]) : x.row(a[0], 0, a[1]);
        }
    }
}
