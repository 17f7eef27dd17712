/** Promises 16 to 23: evenings in thought. */
public final class ThoughtTest {
    private static final Due due = new Due("ThoughtTest");

    public static void main(String[] args) {
        evening();
        eveningWithAgain();
        exact();
        exactRefused();
        best();
        pairs();
        face();
        faceByLaw();
        numbers();
        judge();
        lots();
        due.end();
    }

    private static OpenOrTake four() {
        OpenOrTake x = Due.party(0, 0, 0, 0);
        Due.worths(x, new int[][] {{10, 50, 30, 5}, {40, 20, 60, 10}, {70, 30, 20, 90}, {80, 10, 40, 30}});
        return x;
    }

    private static void evening() {
        OpenOrTake x = four();
        // 0 opens 0. 1: guess (20+60+10)/3=30, 40 > 30: takes 0. 0: may not take it back: opens 1.
        // 2: guess (20+90)/2=55, 70: takes 0 from 1. 1: guess 35, 20 is not: opens 2.
        // 3: guess 30, 80: takes 0 from 2 (the third time). 2: guess 90: opens 3.
        int[] has = {1, 2, 3, 0};
        for (int who = 0; who < 4; who++) {
            due.is("parcel of " + who, x.evening(who, 0), has[who]);
        }
        due.is("turns", x.evening(0, 1), 7);
        due.is("worths", x.evening(0, 2), 50 + 60 + 90 + 80);
        due.is("0 was taken", x.evening(0, 3), 3);
        due.is("3 was not", x.evening(3, 3), 0);
        due.is("in deed nothing came", x.count(1), 4);
        x.open();
        x.open();
        due.is("from its beginning all the same", x.evening(1, 0), 2);
        x.goOn();
        due.is("behind its end too", x.evening(1, 0), 2);
        int[][] bad = {{-1, 0}, {4, 0}, {1, 1}, {-1, 1}, {1, 2}, {4, 3}, {-1, 3}, {0, -1}, {0, 4}};
        for (int[] call : bad) {
            due.is("evening(" + call[0] + ", " + call[1] + ")", x.evening(call[0], call[1]), -1);
        }
        due.is("nobody's turns", new OpenOrTake().evening(0, 1), 0);
        due.is("nobody's worths", new OpenOrTake().evening(0, 2), 0);
        due.is("nobody's parcel", new OpenOrTake().evening(0, 0), -1);
        due.is("no parcel", new OpenOrTake().evening(0, 3), -1);
    }

    private static void eveningWithAgain() {
        OpenOrTake x = four();
        x.mend(3, 0, 99);
        due.is("0 has 1 at the end", x.evening(0, 0), 1);
        x.mend(0, 4, 1);
        due.is("AGAIN: 3 for it", x.evening(0, 0), 3);
        due.is("who had it has 1", x.evening(2, 0), 1);
        due.is("a turn more", x.evening(0, 1), 8);
        due.is("taken once", x.evening(3, 3), 1);
        due.is("worths", x.evening(0, 2), 99 + 60 + 30 + 80);
        x.mend(0, 0, 99);
        x.mend(3, 0, 98);
        due.is("0 is safe, so 3", x.evening(0, 0), 3);
    }

    private static void exact() {
        OpenOrTake x = Due.party(0, 0);
        x.mend(0, 3, 2);
        Due.worths(x, new int[][] {{1, 9}, {1, 9}});
        // 1 has the worse one if it takes 0: then 0 opens 1. So it opens 1 itself.
        due.is("of 0", x.exact(0), 0);
        due.is("of 1", x.exact(1), 1);
        due.is("turns", x.exact(-1), 2);
        Due.worths(x, new int[][] {{1, 9}, {9, 1}});
        due.is("1 takes", x.exact(1), 0);
        due.is("and 0 opens", x.exact(0), 1);
        due.is("turns", x.exact(-1), 3);
        Due.worths(x, new int[][] {{1, 9}, {5, 5}});
        due.is("of like ones opening", x.exact(-1), 2);
        x.mend(0, 4, 1);
        due.is("AGAIN does not count", x.exact(0), 0);

        x = Due.party(0, 0, 0);
        x.mend(0, 3, 1);
        Due.worths(x, new int[][] {{0, 0, 0}, {0, 0, 0}, {8, 8, 0}});
        // 1 opens (all is 0 for it). 2 may take 0 or 1: the least.
        due.is("of like parcels the least", x.exact(2), 0);
        due.is("who was robbed opens", x.exact(0), 2);
        due.is("turns", x.exact(-1), 4);
        x.swap(2);
        due.is("by the lot", x.exact(2), 0);
        due.is("three turns", x.exact(-1), 3);
        due.is("in deed nothing came", x.count(1), 3);
    }

    private static void exactRefused() {
        OpenOrTake x = Due.party(0, 0, 0);
        due.is("MOST 3", x.exact(0), -5);
        due.is("BAD ahead of STATE", x.exact(3), -1);
        due.is("below -1", x.exact(-2), -1);
        x.mend(0, 3, 2);
        due.is("MOST 2", x.exact(-1), 3);
        x.person(0);
        due.is("four people", x.exact(0), -5);
        due.is("four people's turns", x.exact(-1), -5);
        x = new OpenOrTake();
        due.is("nobody, MOST 3", x.exact(-1), -5);
        x.mend(0, 3, 1);
        due.is("nobody's turns", x.exact(-1), 0);
        due.is("nobody's parcel", x.exact(0), -1);
    }

    private static void best() {
        OpenOrTake x = four();
        due.is("worths", x.best(-1), 50 + 60 + 90 + 80);
        int[] parting = {1, 2, 3, 0};
        for (int who = 0; who < 4; who++) {
            due.is("parcel of " + who, x.best(who), parting[who]);
        }
        due.is("best(4)", x.best(4), -1);
        due.is("best(-2)", x.best(-2), -1);

        x = Due.party(0, 0, 0);
        due.is("all 0", x.best(-1), 0);
        due.is("the first such", x.best(0), 0);
        due.is("the first such", x.best(2), 2);
        Due.worths(x, new int[][] {{5, 5, 5}, {5, 5, 0}, {0, 5, 5}});
        due.is("15 in three ways", x.best(-1), 15);
        due.is("the first of them", x.best(0), 0);
        due.is("the first of them", x.best(1), 1);
        due.is("the first of them", x.best(2), 2);
        x.mend(0, 0, 0);
        due.is("15 in one", x.best(0), 1);
        due.is("15 in one", x.best(1), 0);
        due.is("nobody", new OpenOrTake().best(-1), 0);
        due.is("nobody", new OpenOrTake().best(0), -1);
    }

    private static void pairs() {
        OpenOrTake x = Due.party(2, 2, 2);
        Due.law(x, "o");
        Due.worths(x, new int[][] {{1, 5, 5}, {5, 1, 5}, {5, 5, 1}});
        due.is("all three pairs", x.pairs(), 3);
        x.mend(1, 0, 1);
        due.is("as good is not rather", x.pairs(), 2);
        x.mend(22, 0, 6);
        due.is("2 keeps its own", x.pairs(), 0);
        x.mend(1, 0, 5);
        due.is("one pair", x.pairs(), 1);
        x.mend(0, 4, 1);
        due.is("behind AGAIN", x.pairs(), 0);
    }

    private static void face() {
        OpenOrTake x = four();
        // 3 takes 0 as long as 80 - x is no less than 40, which it would take else.
        due.is("face of 1", x.face(1), 0);
        due.is("face of 0", x.face(0), 41);
        due.is("worths are as they were", x.of(30, 0), 80);
        due.is("and as they were", x.of(0, 0), 10);
        due.is("no change", x.count(4), 16);
        due.is("face(4)", x.face(4), -1);
        due.is("face(-1)", x.face(-1), -1);
        due.is("nobody's", new OpenOrTake().face(0), -1);
        x.mend(30, 0, 99);
        x.mend(31, 0, 0);
        x.mend(32, 0, 0);
        x.mend(33, 0, 0);
        due.is("all of it", x.face(0), 99);
    }

    private static void faceByLaw() {
        OpenOrTake x = Due.party(2, 2);
        Due.law(x, "o=0");
        due.is("taken by law whatever it is worth", x.face(0), -2);
        due.is("the last one never is", x.face(1), 0);
        Due.law(x, "o?40;w+x");
        Due.worths(x, new int[][] {{25, 0}, {30, 0}});
        // x is the worth for another one: both are less. 55 - 2x > 40 while x < 8.
        due.is("all people's worths are less", x.face(0), 8);
        Due.worths(x, new int[][] {{3, 0}, {50, 0}});
        // 0 at least: 53 - 2x while x <= 3, 50 - x behind.
        due.is("0 at least", x.face(0), 10);
        x = Due.party(0, 0);
        x.mend(0, 4, 1);
        x.mend(1, 0, 30);
        due.is("AGAIN takes too", x.face(1), 30);
    }

    private static void numbers() {
        OpenOrTake x = new OpenOrTake();
        due.is("nobody unlike", x.numbers(5, 3, -1), 0);
        due.is("no place", x.numbers(5, 3, 0), -1);
        x = Due.party(0);
        x.mend(0, 0, 9);
        due.is("one alone has it n times", x.numbers(5, 30, 0), 270);
        due.is("n 0", x.numbers(5, 0, 0), -1);
        due.is("n 31", x.numbers(5, 31, 0), -1);
        due.is("place 1", x.numbers(5, 1, 1), -1);
        due.is("place -2", x.numbers(5, 1, -2), -1);

        x = Due.party(0, 0);
        x.mend(0, 3, 1);
        Due.worths(x, new int[][] {{10, 20}, {40, 70}});
        // SEED 0: z = 12345, z >>> 8 = 48, % 2 = 0: places 1 and 0 change: 1 opens 0 (40), 0 opens 1 (20).
        due.is("place 0, one draw", x.numbers(0, 1, 0), 40);
        due.is("place 1, one draw", x.numbers(0, 1, 1), 20);
        due.is("unlike", x.numbers(0, 1, -1), 20);
        // Then z = 12345 * 1103515245 + 12345; no change if (z >>> 8) is odd.
        int z = 12345 * 1103515245 + 12345;
        boolean change = (z >>> 8) % 2 == 0;
        due.is("place 0, two draws", x.numbers(0, 2, 0), 40 + (change ? 40 : 10));
        due.is("from the lot as it is each time", x.of(0, 10), 0);
        x.swap(1);
        due.is("from another lot", x.numbers(0, 1, 0), 10);
        due.is("a seed below 0", x.numbers(-1, 1, 0) + x.numbers(-1, 1, 1), allOf(-1));
    }

    /** Both places together by one draw of two people whose lot is 1, 0. */
    private static int allOf(int seed) {
        int z = seed * 1103515245 + 12345;
        return (z >>> 8) % 2 == 0 ? 10 + 70 : 40 + 20;
    }

    private static void judge() {
        OpenOrTake x = four();
        due.is("judge(-1)", x.judge(-1), -1);
        due.is("judge(6)", x.judge(6), -1);
        due.is("nothing there", x.judge(0), -11);
        x.row(0, 1, 4);
        due.is("shorts", x.judge(0), -12);
        x.body(0);
        x.keep(0, 0);
        due.is("a body", x.judge(0), -12);
        Due.row(x, 0, 0, 1, 2, 3, 0);
        due.is("as told", x.judge(0), -2);
        x.put(0, 3, 1);
        due.is("3 does not", x.judge(0), 3);
        x.put(0, 0, -1);
        due.is("0 does not", x.judge(0), 0);
        Due.row(x, 0, 0, 1, 2);
        due.is("it ends before", x.judge(0), -2);
        Due.row(x, 0, 0, 1, 2, 3, 0, 99);
        due.is("what is behind does not count", x.judge(0), -2);
        x.row(0, 0, 0);
        due.is("an empty row", x.judge(0), -2);
    }

    private static void lots() {
        OpenOrTake x = four();
        due.is("lots(-1)", x.lots(-1), -1);
        due.is("lots(6)", x.lots(6), -1);
        due.is("nothing there", x.lots(0), -11);
        x.row(0, 3, 4);
        due.is("longs", x.lots(0), -12);
        x.row(0, 0, 0);
        due.is("what lacks does not matter", x.lots(0), 24);

        x = Due.party(2, 2, 2);
        Due.law(x, "o");
        Due.row(x, 0, 0, 0, 1, 2);
        due.is("one lot", x.lots(0), 1);
        Due.row(x, 0, 0, 2);
        due.is("two lots", x.lots(0), 2);
        Due.row(x, 0, 0, 2, 2);
        due.is("none", x.lots(0), 0);
        Due.row(x, 0, 0, 1, 0, 2, 7, 7);
        due.is("one lot", x.lots(0), 1);
        x.swap(2);
        x.open();
        due.is("whatever the lot is", x.lots(0), 1);
        x.mend(0, 4, 1);
        Due.worths(x, new int[][] {{0, 0, 9}, {0, 0, 0}, {0, 0, 0}});
        Due.row(x, 0, 0, 2);
        due.is("two lots with 0 last, two with 0 first by AGAIN", x.lots(0), 4);
        due.is("nobody has one lot", empty().lots(0), 1);
    }

    private static OpenOrTake empty() {
        OpenOrTake x = new OpenOrTake();
        x.row(0, 0, 2);
        return x;
    }
}
