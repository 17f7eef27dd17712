/** Promises 28 to 30: bodies, acts and the trace. */
public final class BodiesTest {
    private static final Due due = new Due("BodiesTest");

    public static void main(String[] args) {
        bodies();
        acts();
        wrapping();
        traces();
        refused();
        due.end();
    }

    private static void bodies() {
        OpenOrTake x = new OpenOrTake();
        due.is("body(-1)", x.body(-1), -1);
        due.is("body(8)", x.body(8), -1);
        for (int i = 0; i < 50; i++) {
            due.is("body " + i, x.body(i % 8), i);
            due.is("bodies", x.count(5), i + 1);
        }
        due.is("full", x.body(0), -3);
        due.is("BAD ahead of FULL", x.body(8), -1);
        due.is("bodies", x.count(5), 50);
        due.is("the last one acts", x.act(49, 0, 1), 1 + 49 + 3);
    }

    /** By kinds what opens, takes, looks, keeps answer for x = 5 of the body whose number is the kind's. */
    private static void acts() {
        OpenOrTake x = new OpenOrTake();
        for (int kind = 0; kind < 8; kind++) {
            x.body(kind);
        }
        int v = 5;
        int[][] want = new int[8][4];
        want[0] = new int[] {v, v * 2, v, v * 2 - 1};
        want[1] = new int[] {v + 1 + 3, (v + 4) * 2, v ^ 1, (v + 4) * 2 - (1 ^ 1)};
        want[2] = new int[] {v + 2, -(v + 2) * 2, v ^ 2, -(v + 2) * 2 - (1 ^ 2)};
        want[3] = new int[] {v + 3, -(v + 1 + 3) * 2, (v ^ 3) * 3, -(v + 4) * 2 - (1 ^ 3) * 3};
        want[4] = new int[] {v + 4 + 3, (v + 7) * 2, v ^ 4, ((v + 7) * 2 - (1 ^ 4)) ^ 5};
        int shunnedLook1 = (1 ^ 5) * 3 - (2 + 5);
        want[5] = new int[] {v + 5, -(v + 1 + 5) * 2, (v ^ 5) * 3 - 7, -(v + 6) * 2 - shunnedLook1 + 1};
        want[6] = new int[] {(v + 6) * 2, (v + 6) * 4, v ^ 6, (v + 6) * 4 - (1 ^ 6)};
        int feignedOpens = (v + 7) * 2 - 1;
        int feignedTakes = feignedOpens * 2 + (2 ^ 7);
        want[7] = new int[] {feignedOpens, feignedTakes, v ^ 7, feignedTakes - (1 ^ 7)};
        for (int kind = 0; kind < 8; kind++) {
            for (int act = 0; act < 4; act++) {
                due.is("kind " + kind + " act " + act, x.act(kind, act, v), want[kind][act]);
            }
        }
    }

    private static void wrapping() {
        OpenOrTake x = new OpenOrTake();
        x.body(0);
        x.body(1);
        due.is("takes wraps", x.act(0, 1, Integer.MAX_VALUE), -2);
        due.is("opens wraps", x.act(1, 0, Integer.MAX_VALUE), Integer.MIN_VALUE + 3);
        x.body(3);
        due.is("looks wraps", x.act(2, 2, 0x40000000), (0x40000000 ^ 2) * 3);
    }

    private static void traces() {
        OpenOrTake x = new OpenOrTake();
        for (int kind = 0; kind < 8; kind++) {
            x.body(kind);
        }
        int[][][] want = {
            {{1}, {10, 1}, {11}, {2, 10, 1, 11}},
            {{20, 1}, {10, 20, 1}, {11}, {2, 10, 20, 1, 11}},
            {{1}, {30, 10, 1}, {11}, {2, 30, 10, 1, 11}},
            {{1}, {41, 30, 10, 1}, {40, 11}, {2, 41, 30, 10, 1, 40, 11}},
            {{20, 1}, {10, 20, 1}, {11}, {50, 2, 10, 20, 1, 11}},
            {{1}, {41, 30, 10, 1}, {60, 40, 11, 1}, {61, 2, 41, 30, 10, 1, 60, 40, 11, 1}},
            {{70, 1}, {10, 70, 1}, {11}, {2, 10, 70, 1, 11}},
            {{81, 70, 1}, {80, 10, 81, 70, 1, 11}, {11}, {2, 80, 10, 81, 70, 1, 11, 11}}
        };
        for (int kind = 0; kind < 8; kind++) {
            for (int act = 0; act < 4; act++) {
                x.act(kind, act, 3);
                String run = "kind " + kind + " act " + act;
                due.is(run + " ran", x.count(6), want[kind][act].length);
                for (int i = 0; i < want[kind][act].length; i++) {
                    due.is(run + " trace " + i, x.trace(i), want[kind][act][i]);
                }
                due.is(run + " trace behind", x.trace(want[kind][act].length), -1);
                due.is(run + " trace ahead", x.trace(-1), -1);
            }
        }
    }

    private static void refused() {
        OpenOrTake x = new OpenOrTake();
        due.is("no trace yet", x.trace(0), -1);
        due.is("no such body", x.act(0, 0, 5), 0);
        x.body(5);
        int[][] bad = {{1, 0}, {-1, 0}, {0, -1}, {0, 4}, {50, 0}, {Integer.MIN_VALUE, 3}, {0, Integer.MAX_VALUE}};
        for (int[] call : bad) {
            x.act(0, 3, 9);
            due.is("a trace", x.count(6), 10);
            due.is("act(" + call[0] + ", " + call[1] + ")", x.act(call[0], call[1], 9), 0);
            due.is("no trace then", x.trace(0), -1);
            due.is("nothing ran", x.count(6), 0);
        }
        due.is("trace(24)", x.trace(24), -1);
    }
}
