/** The edges of promises 28 to 30. */
final class BodiesEdges extends Edges {
    private static final int OPENS = 0, TAKES = 1, LOOKS = 2, KEEPS = 3;
    private static final int HALF = 1 << 30;

    BodiesEdges(Sentences sentences) {
        super(sentences);
    }

    @Override
    void hold() {
        bodies();
        kinds();
        actsRefused();
        acts();
        bodiesOfThing();
        bodiesAbove();
        supers();
        trace();
    }

    private static OpenOrTake bodies(int n) {
        OpenOrTake x = new OpenOrTake();
        for (int i = 0; i < n; i++) {
            x.body(i % 8);
        }
        return x;
    }

    private void bodies() {
        of(28, "A BODY of a KIND (0 .. 7) is kept: its number.");
        OpenOrTake x = new OpenOrTake();
        is("kind 7", x.body(7), 0);
        is("kind 0", x.body(0), 1);
        is("bodies", x.count(5), 2);
        of(28, "BAD,");
        for (int kind : new int[] {-1, 8, MIN, MAX}) {
            refused("body(" + kind + ")", BAD, () -> bodies(2), y -> y.body(kind));
        }
        is("BAD ahead of FULL", bodies(50).body(8), BAD);
        of(28, "FULL.");
        refused("a fifty-first", FULL, () -> bodies(50), y -> y.body(0));
        of(28, "BODIES 0 .. 49 are kept by call");
        is("the first", bodies(0).body(0), 0);
        is("the fiftieth", bodies(49).body(3), 49);
        is("all fifty act", bodies(50).act(49, OPENS, 1), 1 + 49 + 3);
    }

    private void kinds() {
        of(28, "of KINDS: 0 THING; 1 WRAPPED under THING; 2 OPEN under THING; 3 HOT under OPEN; 4 SAFE under WRAPPED;"
                + " 5 SHUNNED under HOT; 6 KNOWN under THING; 7 FEIGNED under KNOWN.");
        String[] under = {"0", "10", "20", "320", "410", "5320", "60", "760"};
        OpenOrTake x = bodies(8);
        for (int kind = 0; kind < 8; kind++) {
            x.keep(0, kind);
            for (int k = 0; k < 8; k++) {
                boolean is = under[kind].indexOf('0' + k) >= 0;
                is("kind " + kind + " for " + k, x.taken(0, k), is ? kind : OTHER_KIND);
            }
        }
    }

    private void actsRefused() {
        of(29, "An ACT (0 .. 3) of a BODY with x.");
        OpenOrTake x = bodies(1);
        is("opens", x.act(0, OPENS, 5), 5);
        is("keeps", x.act(0, KEEPS, 5), 9);
        of(29, "0, and no TRACE then: no such BODY, ACT.");
        for (int body : new int[] {2, 50, -1, MIN, MAX}) {
            noTrace(body, OPENS);
        }
        for (int act : new int[] {-1, 4, MIN, MAX}) {
            noTrace(0, act);
        }
        is("nobody", new OpenOrTake().act(0, OPENS, 5), 0);
    }

    private void noTrace(int body, int act) {
        OpenOrTake x = bodies(2);
        x.act(1, KEEPS, 9);
        is("a trace", x.count(6), 5);
        is("act(" + body + ", " + act + ", 9)", x.act(body, act, 9), 0);
        is("bodies that ran", x.count(6), 0);
        is("no TRACE", x.trace(0), BAD);
    }

    private void acts() {
        of(29, "ACTS with x (an int that wraps): 0 opens, 1 takes, 2 looks, 3 keeps; n its number.");
        OpenOrTake x = bodies(2);
        is("opens: x + n", x.act(0, OPENS, MAX), MAX);
        is("takes wraps", x.act(0, TAKES, MAX), -2);
        is("looks: x ^ n", x.act(1, LOOKS, MIN), MIN + 1);
        is("keeps wraps", x.act(0, KEEPS, MAX), -3);
        x = new OpenOrTake();
        for (int i = 0; i < 50; i++) {
            x.body(0);
        }
        is("n is 49", x.act(49, OPENS, MAX), MIN + 48);
        is("n is 49", x.act(49, LOOKS, 1), 48);
    }

    /** What the only body, of number 0, or the one of number n answers. */
    private static int act(int n, int kind, int act, int x) {
        OpenOrTake y = new OpenOrTake();
        for (int i = 0; i < n; i++) {
            y.body(0);
        }
        y.body(kind);
        return y.act(n, act, x);
    }

    private void bodiesOfThing() {
        of(29, "BODIES of acts: OPENS (an interface of THING): 1 opens: x + n.");
        is("7 + 3", act(3, 0, OPENS, 7), 10);
        is("wraps", act(1, 0, OPENS, MAX), MIN);
        of(29, "THING: 10 takes: opens(x) * 2.");
        is("(7 + 3) * 2", act(3, 0, TAKES, 7), 20);
        is("wraps", act(0, 0, TAKES, HALF), MIN);
        of(29, "11 looks: x ^ n.");
        is("7 ^ 3", act(3, 0, LOOKS, 7), 4);
        is("-1 ^ 3", act(3, 0, LOOKS, -1), -4);
        of(29, "KEEPS (of THING): 2 keeps: takes(x) - looks(1).");
        is("20 - (1 ^ 3)", act(3, 0, KEEPS, 7), 18);
        is("wraps", act(0, 0, KEEPS, HALF), MAX);
    }

    private void bodiesAbove() {
        of(29, "WRAPPED: 20 opens: super.opens(x) + 3.");
        is("7 + 3 + 3", act(3, 1, OPENS, 7), 13);
        is("wraps", act(0, 1, OPENS, MAX), MIN + 2);
        of(29, "OPEN: 30 takes: -super.takes(x).");
        is("-(7 + 3) * 2", act(3, 2, TAKES, 7), -20);
        is("wraps", act(0, 2, TAKES, HALF), MIN);
        of(29, "HOT: 40 looks: super.looks(x) * 3.");
        is("(7 ^ 3) * 3", act(3, 3, LOOKS, 7), 12);
        is("wraps", act(0, 3, LOOKS, HALF), -HALF);
        of(29, "41 takes: super.takes(x + 1).");
        is("-(8 + 3) * 2", act(3, 3, TAKES, 7), -22);
        is("wraps to the least", act(0, 3, TAKES, MAX), 0);
        is("wraps", act(0, 3, TAKES, HALF - 1), MIN);
        of(29, "SAFE: 50 keeps: super.keeps(x) ^ 5.");
        is("((7 + 3 + 3) * 2 - (1 ^ 3)) ^ 5", act(3, 4, KEEPS, 7), 24 ^ 5);
        is("wraps", act(0, 4, KEEPS, MAX - 2), -6);
        of(29, "SHUNNED: 60 looks: super.looks(x) - opens(2).");
        is("12 - (2 + 3)", act(3, 5, LOOKS, 7), 7);
        is("wraps", act(0, 5, LOOKS, MIN), MAX - 1);
        of(29, "61 keeps: super.keeps(x) + 1.");
        is("-22 - (2 * 3 - 5) + 1", act(3, 5, KEEPS, 7), -22);
        is("wraps", act(0, 5, KEEPS, HALF - 1), MIN);
        of(29, "KNOWN: 70 opens: super.opens(x) * 2.");
        is("(7 + 3) * 2", act(3, 6, OPENS, 7), 20);
        is("wraps", act(0, 6, OPENS, HALF), MIN);
        of(29, "FEIGNED: 80 takes: super.takes(x) + looks(2).");
        is("19 * 2 + (2 ^ 3)", act(3, 7, TAKES, 7), 39);
        is("wraps", act(0, 7, TAKES, HALF / 2), MIN);
        of(29, "81 opens: super.opens(x) - 1.");
        is("20 - 1", act(3, 7, OPENS, 7), 19);
        is("wraps", act(0, 7, OPENS, HALF), MAX);
    }

    private void supers() {
        of(29, "opens(..) and so on: the body of its own KIND, or of the next KIND above that has one;");
        runs(1, TAKES, 10, 20, 1);
        runs(4, OPENS, 20, 1);
        runs(4, TAKES, 10, 20, 1);
        runs(4, LOOKS, 11);
        runs(5, TAKES, 41, 30, 10, 1);
        runs(6, TAKES, 10, 70, 1);
        runs(7, KEEPS, 2, 80, 10, 81, 70, 1, 11, 11);
        of(29, "super: from the KIND above the body's on.");
        runs(3, TAKES, 41, 30, 10, 1);
        runs(4, KEEPS, 50, 2, 10, 20, 1, 11);
        runs(5, LOOKS, 60, 40, 11, 1);
        runs(5, KEEPS, 61, 2, 41, 30, 10, 1, 60, 40, 11, 1);
        runs(7, OPENS, 81, 70, 1);
        runs(7, TAKES, 80, 10, 81, 70, 1, 11);
    }

    /** Which bodies run, as they begin. */
    private void runs(int kind, int act, int... bodies) {
        OpenOrTake x = bodies(8);
        x.act(kind, act, 5);
        String what = "kind " + kind + ", act " + act;
        is(what + ", all", x.count(6), bodies.length);
        for (int i = 0; i < bodies.length; i++) {
            is(what + ", the one at " + i, x.trace(i), bodies[i]);
        }
    }

    private void trace() {
        of(30, "THE TRACE's i-th body.");
        runs(0, KEEPS, 2, 10, 1, 11);
        of(30, "BAD.");
        for (int i : new int[] {4, 23, 24, 50, -1, MIN, MAX}) {
            refused("trace(" + i + ")", BAD, BodiesEdges::kept, y -> y.trace(i));
        }
        is("no act was", bodies(1).trace(0), BAD);
        of(30, "THE TRACE: numbers of the bodies that ran in the latest act(), as they began;");
        OpenOrTake x = kept();
        x.act(0, OPENS, 5);
        is("the latest one's", x.trace(0), 1);
        is("nothing of the one ahead", x.trace(1), BAD);
        is("all that ran", x.count(6), 1);
        of(30, "the first 24 are kept.");
        // No act has so many: the longest has ten.
        x = bodies(6);
        x.act(5, KEEPS, 5);
        is("ten", x.count(6), 10);
        is("the tenth", x.trace(9), 1);
        is("an eleventh", x.trace(10), BAD);
        is("a twenty-fifth", x.trace(24), BAD);
    }

    private static OpenOrTake kept() {
        OpenOrTake x = bodies(1);
        x.act(0, KEEPS, 5);
        return x;
    }
}
