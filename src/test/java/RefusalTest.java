import java.util.Random;

/**
 * For all arguments in all states nothing is thrown, a second object that hears the same calls answers the same, and
 * what is refused changes nothing: an object that did not hear it tells the same behind it.
 */
public final class RefusalTest {
    private static final Due due = new Due("RefusalTest");
    private static final int[] EDGES = {-1, -2, 7, 8, 9, 10, 11, 60, 61, 99, 100, 120, 255, 256,
        Integer.MAX_VALUE, Integer.MIN_VALUE, Integer.MAX_VALUE - 3};
    private static final int MOST_CALLS = 512;
    /** Calls ahead of what Told asks then. */
    private static final int FEW_CALLS = 120;

    private final Random random;
    private final int seed;
    private final int[] call;
    private final int[][] args;

    private RefusalTest(int seed, int calls) {
        this.seed = seed;
        random = new Random(seed);
        call = new int[calls];
        args = new int[calls][5];
        int people = seed % 8;
        for (int i = 0; i < calls; i++) {
            call[i] = i < people ? 0 : random.nextInt(37);
            for (int k = 0; k < 5; k++) {
                args[i][k] = i < people ? i % 3 : arg(call[i]);
            }
        }
    }

    public static void main(String[] args) {
        for (int seed = 0; seed < 300; seed++) {
            new RefusalTest(seed, MOST_CALLS).twins();
            new RefusalTest(seed + 1000, FEW_CALLS).refusals();
        }
        due.end();
    }

    private int arg(int ofCall) {
        int sort = random.nextInt(10);
        if (sort == 0) {
            return EDGES[random.nextInt(EDGES.length)];
        }
        if (sort < 3) {
            return random.nextInt(70);
        }
        return ofCall == 5 ? "wxtlor123;?|&<=>+-*/%!()".charAt(random.nextInt(24)) : random.nextInt(6);
    }

    private String said(int i) {
        return "seed " + seed + " call " + i + " of " + call[i] + " " + java.util.Arrays.toString(args[i]);
    }

    private void twins() {
        OpenOrTake x = new OpenOrTake();
        OpenOrTake twin = new OpenOrTake();
        for (int i = 0; i < call.length; i++) {
            try {
                due.is(said(i), answer(x, i), answer(twin, i));
            } catch (RuntimeException thrown) {
                due.is(said(i) + " threw " + thrown, 1, 0);
                return;
            }
        }
    }

    private void refusals() {
        OpenOrTake x = new OpenOrTake();
        for (int i = 0; i < call.length; i++) {
            boolean refused = isRefusal(call[i], answer(x, i));
            if (refused && random.nextInt(8) == 0) {
                for (int part = 0; part < Told.PARTS; part++) {
                    boolean alike = Told.part(behind(i), part).equals(Told.part(behind(i - 1), part));
                    due.is(said(i) + " changed part " + part, alike ? 0 : 1, 0);
                }
            }
        }
    }

    /** An object that has heard all calls till this one. */
    private OpenOrTake behind(int last) {
        OpenOrTake x = new OpenOrTake();
        for (int i = 0; i <= last; i++) {
            answer(x, i);
        }
        return x;
    }

    /** law() empties the tape and act() the trace whatever they answer. */
    private static boolean isRefusal(int call, long answer) {
        return answer < 0 && answer >= -14 && call != 6 && call != 27;
    }

    private long answer(OpenOrTake x, int i) {
        int[] a = args[i];
        switch (call[i]) {
            case 0: return x.person(a[0]);
            case 1: return x.people(a[0], a[1], a[2]);
            case 2: return x.mend(a[0] < 7 && a[0] >= 0 ? 10 * a[0] + a[3] : a[0], a[1], a[2]);
            case 3: return x.of(a[0], a[1]);
            case 4: return x.swap(a[0]);
            case 5: return x.feed(a[0]);
            case 6: return x.law();
            case 7: return x.turn();
            case 8: return x.open();
            case 9: return x.take(a[0]);
            case 10: return x.goOn();
            case 11: return x.again();
            case 12: return x.anew();
            case 13: return x.led(a[0]);
            case 14: return x.evening(a[0], a[1]);
            case 15: return x.exact(a[0]);
            case 16: return x.best(a[0]);
            case 17: return x.pairs();
            case 18: return x.face(a[0]);
            case 19: return x.numbers(a[0], a[1], a[2]);
            case 20: return x.judge(a[0]);
            case 21: return x.judge(a[0] % 6);
            case 22: return x.image();
            case 23: return x.back();
            case 24: return x.undo();
            case 25: return x.redo();
            case 26: return x.body(a[0]);
            case 27: return x.act(a[0], a[1], a[2]);
            case 28: return x.trace(a[0]);
            case 29: return x.keep(a[0], a[1]);
            case 30: return x.row(a[0], a[1] % 2 == 0 ? a[1] : 0, a[2]);
            case 31: return x.put(a[0], a[1], a[2]);
            case 32: return x.shift(a[0], a[1], a[2], a[3], a[4]);
            case 33: return x.element(a[0], a[1]);
            case 34: return x.taken(a[0], a[1]);
            case 35: return x.count(a[0]);
            default: return a[1] == 3 ? x.lots(a[0]) : x.row(a[0], 0, a[1]);
        }
    }
}
