import java.util.List;
import java.util.function.Supplier;
import java.util.function.ToLongFunction;

/** The edges of promises 16 to 23. */
final class ThoughtEdges extends Edges {
    ThoughtEdges(Sentences sentences) {
        super(sentences);
    }

    @Override
    void hold() {
        evening();
        inThought();
        exact();
        exactIsFor();
        best();
        pairs();
        face();
        faceIsOf();
        numbers();
        lotsOfNumbers();
        judge();
        lots();
    }

    private static OpenOrTake four() {
        OpenOrTake x = people(4);
        Due.worths(x, new int[][] {{10, 50, 30, 5}, {40, 20, 60, 10}, {70, 30, 20, 90}, {80, 10, 40, 30}});
        return x;
    }

    /** All go by a law by which they OPEN: at each place of the lot one gets the parcel of its number. */
    private static OpenOrTake openers(int n) {
        OpenOrTake x = new OpenOrTake();
        for (int i = 0; i < n; i++) {
            x.person(2);
        }
        Due.law(x, "o");
        return x;
    }

    private void evening() {
        of(16, "AN EVENING: the PARCEL of a PERSON (what 0);");
        // 0 opens 0. 1: guess 30, 40: takes 0. 0 may not take it back: opens 1. 2: guess 55, 70: takes 0 from 1.
        // 1: guess 35, 20: opens 2. 3: guess 30, 80: takes 0 from 2, the third time. 2: guess 90: opens 3.
        int[] has = {1, 2, 3, 0};
        for (int who = 0; who < 4; who++) {
            is("of " + who, four().evening(who, 0), has[who]);
        }
        is("of one alone", people(1).evening(0, 0), 0);
        is("of the last of seven", people(7).evening(6, 0), 6);
        of(16, "number 0: TURNS (1), WORTHS together (2);");
        is("turns", four().evening(0, 1), 7);
        is("worths", four().evening(0, 2), 50 + 60 + 90 + 80);
        is("nobody's turns", new OpenOrTake().evening(0, 1), 0);
        is("nobody's worths", new OpenOrTake().evening(0, 2), 0);
        for (int number : new int[] {1, -1, 7, MIN, MAX}) {
            refused("turns of " + number, BAD, ThoughtEdges::four, x -> x.evening(number, 1));
            refused("worths of " + number, BAD, ThoughtEdges::four, x -> x.evening(number, 2));
        }
        of(16, "how often a PARCEL was TAKEN (3).");
        is("thrice", four().evening(0, 3), 3);
        is("never", four().evening(3, 3), 0);
        of(16, "BAD.");
        for (int number : new int[] {-1, 4, 10, MIN, MAX}) {
            refused("parcel of " + number, BAD, ThoughtEdges::four, x -> x.evening(number, 0));
            refused("how often " + number, BAD, ThoughtEdges::four, x -> x.evening(number, 3));
        }
        for (int what : new int[] {-1, 4, MIN, MAX}) {
            refused("what " + what, BAD, ThoughtEdges::four, x -> x.evening(0, what));
        }
        is("nobody's parcel", new OpenOrTake().evening(0, 0), BAD);
        is("nobody's parcel, how often", new OpenOrTake().evening(0, 3), BAD);
    }

    private void inThought() {
        of(16, "In thought, an EVENING from its beginning by THE LOT: with which PARCEL one goes home; how many"
                + " TURNS;");
        OpenOrTake x = four();
        x.open();
        x.open();
        x.take(0);
        is("in deed it goes on otherwise", x.evening(1, 0), 2);
        is("turns", x.evening(0, 1), 7);
        x.goOn();
        is("in deed it has ended", x.evening(0, 1), 7);
        x = openers(3);
        x.swap(2);
        is("the last of the lot", x.evening(0, 0), 2);
        is("the first", x.evening(2, 0), 0);
        unchanged("evening", Edges::lived, y -> y.evening(0, 1));
        unchanged("best", Edges::lived, y -> y.best(0));
        unchanged("pairs", Edges::lived, y -> y.pairs());
        unchanged("face", Edges::lived, y -> y.face(0));
        unchanged("numbers", Edges::lived, y -> y.numbers(7, 30, 0));
        unchanged("judge", Edges::lived, y -> y.judge(1));
        unchanged("lots", Edges::lived, y -> y.lots(1));
        unchanged("exact", () -> exactly(1, new int[][] {{0, 0, 0}, {6, 1, 9}, {0, 9, 8}}), y -> y.exact(0));
        of(16, "all WORTHS together (each its own);");
        x = openers(2);
        Due.worths(x, new int[][] {{1, 20}, {40, 80}});
        is("1 and 80", x.evening(0, 2), 81);
        x.swap(1);
        is("40 and 20", x.evening(0, 2), 60);
        of(16, "how often a PARCEL was TAKEN.");
        x = four();
        x.open();
        x.take(0);
        is("from the beginning", x.evening(0, 3), 3);
        x.mend(0, 3, 1);
        is("once with MOST 1", x.evening(0, 3), 1);
        x.mend(3, 0, 99);
        is("without AGAIN", x.evening(3, 3), 0);
        x.mend(0, 4, 1);
        is("AGAIN counts as TAKEN", x.evening(3, 3), 1);
    }

    private void unchanged(String what, Supplier<OpenOrTake> state, ToLongFunction<OpenOrTake> call) {
        refused(what, call.applyAsLong(state.get()), state, call);
    }

    private static OpenOrTake exactly(int most, int[][] worths) {
        OpenOrTake x = people(worths.length);
        x.mend(0, 3, most);
        Due.worths(x, worths);
        return x;
    }

    private void exact() {
        of(17, "EXACT: the PARCEL of a PERSON; TURNS (-1).");
        OpenOrTake x = exactly(2, new int[][] {{1, 9}, {9, 1}});
        is("1 takes 0", x.exact(1), 0);
        is("0 opens 1", x.exact(0), 1);
        is("turns", x.exact(-1), 3);
        is("one alone", exactly(2, new int[][] {{5}}).exact(0), 0);
        is("its turns", exactly(1, new int[][] {{5}}).exact(-1), 1);
        is("nobody's turns", exactly(2, new int[][] {}).exact(-1), 0);
        of(17, "BAD;");
        for (int person : new int[] {3, 7, -2, MIN, MAX}) {
            refused("exact(" + person + ")", BAD, () -> exactly(2, new int[3][3]), y -> y.exact(person));
        }
        is("nobody", exactly(2, new int[][] {}).exact(0), BAD);
        is("BAD ahead of STATE", people(4).exact(4), BAD);
        is("BAD ahead of STATE, below", people(4).exact(-2), BAD);
        of(17, "STATE.");
        refused("lived", STATE, Edges::lived, y -> y.exact(0));
        of(17, "EXACT (at most 3 PEOPLE");
        is("three", exactly(2, new int[3][3]).exact(2), 2);
        refused("four", STATE, () -> exactly(1, new int[4][4]), y -> y.exact(0));
        refused("four, turns", STATE, () -> exactly(1, new int[4][4]), y -> y.exact(-1));
        is("seven", exactly(1, new int[7][7]).exact(6), STATE);
        of(17, ", and MOST 2 at most, else STATE;");
        is("MOST 2", exactly(2, new int[3][3]).exact(-1), 3);
        refused("MOST 3", STATE, () -> exactly(3, new int[3][3]), y -> y.exact(0));
        refused("MOST 3, nobody", STATE, OpenOrTake::new, y -> y.exact(-1));
        is("MOST 3, one", people(1).exact(0), STATE);
        of(17, "AGAIN does not count)");
        x = exactly(2, new int[][] {{1, 9}, {1, 9}});
        x.mend(0, 4, 1);
        is("0 stays with 0", x.exact(0), 0);
        is("no turn", x.exact(-1), 2);
    }

    private void exactIsFor() {
        of(17, "each, knowing all WORTHS, OPENS (the least number, known to all) or TAKES so that it goes home with"
                + " most WORTH, all behind likewise");
        // 1 could take 0, worth 6, which were SAFE then. It opens 1, for 2 will take that, and 2, worth 9, is left.
        OpenOrTake x = exactly(1, new int[][] {{0, 0, 0}, {6, 1, 9}, {0, 9, 8}});
        is("of 0", x.exact(0), 0);
        is("of 1", x.exact(1), 2);
        is("of 2", x.exact(2), 1);
        is("turns", x.exact(-1), 4);
        is("by its WAY it took 0", x.evening(1, 0), 0);
        x = exactly(2, new int[][] {{1, 9}, {1, 9}});
        is("nobody takes: 0 would get 9", x.exact(1), 1);
        x.open();
        x.take(0);
        is("from the beginning", x.exact(-1), 2);
        x = exactly(2, new int[][] {{1, 9}, {9, 1}});
        x.swap(1);
        is("by the lot 1 opens 0", x.exact(1), 0);
        is("and 0 opens 1", x.exact(-1), 2);
        besideTheModel();
        of(17, "(of like ones OPENING, then the least PARCEL): the PARCEL of one; the TURNS.");
        is("as much by taking: opens", exactly(2, new int[][] {{1, 9}, {5, 5}}).exact(-1), 2);
        x = exactly(1, new int[][] {{0, 0, 0}, {0, 0, 0}, {8, 8, 0}});
        is("0 and 1 alike", x.exact(2), 0);
        is("who was robbed opens 2", x.exact(0), 2);
        is("turns", x.exact(-1), 4);
        is("1 is worth one more", exactly(1, new int[][] {{0, 0, 0}, {0, 0, 0}, {8, 9, 0}}).exact(2), 1);
    }

    /** Many worths, few unlike ones, so that like ones and longer evenings come too. */
    private void besideTheModel() {
        for (int i = 0; i < 300; i++) {
            Model model = new Model();
            model.n = 3;
            model.most = 1 + i % 2;
            model.lot = List.of(0, 1, 2);
            int[][] worths = new int[3][3];
            for (int pn = 0; pn < 9; pn++) {
                worths[pn / 3][pn % 3] = (i * (31 + 7 * pn) + i * i % (pn + 5)) % (3 + i % 7);
                model.worth[pn / 3][pn % 3] = worths[pn / 3][pn % 3];
            }
            OpenOrTake x = exactly(model.most, worths);
            Model.Party end = model.exact(model.begun(model.lot));
            is("turns, " + i, x.exact(-1), end.turns);
            for (int who = 0; who < 3; who++) {
                is("of " + who + ", " + i, x.exact(who), end.has.get(who));
            }
        }
    }

    private void best() {
        of(18, "BEST: WORTHS (-1), the PARCEL of a PERSON.");
        is("worths", four().best(-1), 50 + 60 + 90 + 80);
        is("of 0", four().best(0), 1);
        is("of 3", four().best(3), 0);
        is("one alone", people(1).best(0), 0);
        is("nobody's worths", new OpenOrTake().best(-1), 0);
        of(18, "BAD.");
        for (int person : new int[] {4, 7, -2, MIN, MAX}) {
            refused("best(" + person + ")", BAD, ThoughtEdges::four, y -> y.best(person));
        }
        is("nobody", new OpenOrTake().best(0), BAD);
        of(18, "BEST: of all partings (one each) the most that all WORTHS together can be;");
        OpenOrTake x = people(7);
        for (int i = 0; i < 7; i++) {
            for (int k = 0; k < 7; k++) {
                x.mend(10 * i + k, 0, k == 6 - i ? 99 : 98);
            }
        }
        is("the greatest of all", x.best(-1), 7 * 99);
        for (int i = 0; i < 7; i++) {
            is("of " + i, x.best(i), 6 - i);
        }
        x = people(2);
        Due.worths(x, new int[][] {{9, 8}, {9, 1}});
        is("not the best one for each", x.best(-1), 17);
        is("0 leaves it", x.best(0), 1);
        of(18, "the PARCEL of one in the first such (by PEOPLE, PARCELS by numbers).");
        for (int i = 0; i < 7; i++) {
            is("all alike, of " + i, people(7).best(i), i);
        }
        x = people(3);
        Due.worths(x, new int[][] {{5, 5, 5}, {5, 5, 0}, {0, 5, 5}});
        for (int i = 0; i < 3; i++) {
            is("0 1 2, not 1 0 2 nor 2 0 1, of " + i, x.best(i), i);
        }
        x.mend(11, 0, 0);
        is("1 0 2, not 2 0 1", x.best(0), 1);
        is("of 1", x.best(1), 0);
        is("of 2", x.best(2), 2);
    }

    private void pairs() {
        of(19, "PAIRS.");
        is("nobody", new OpenOrTake().pairs(), 0);
        is("one", people(1).pairs(), 0);
        OpenOrTake x = openers(7);
        for (int pn = 0; pn < 70; pn++) {
            x.mend(pn, 0, pn / 10 == pn % 10 ? 0 : 1);
        }
        is("all pairs of seven", x.pairs(), 21);
        of(19, "PAIRS: how many pairs would both rather have the other one's behind the EVENING.");
        x = openers(2);
        Due.worths(x, new int[][] {{1, 5}, {5, 1}});
        is("both", x.pairs(), 1);
        x.mend(1, 0, 1);
        is("as good is not rather", x.pairs(), 0);
        x.mend(1, 0, 0);
        is("one would not", x.pairs(), 0);
        x.mend(1, 0, 2);
        x.mend(10, 0, 1);
        is("the other one: as good is not rather", x.pairs(), 0);
        x.mend(10, 0, 2);
        is("both", x.pairs(), 1);
        x.mend(0, 4, 1);
        is("AGAIN has changed it", x.pairs(), 0);
    }

    /** 0 is worth so much for 1, who takes it if that is more than 0. */
    private static OpenOrTake two(int worth) {
        OpenOrTake x = people(2);
        x.mend(10, 0, worth);
        return x;
    }

    private void face() {
        of(20, "FACE.");
        is("of 0", four().face(0), 41);
        is("of 1", four().face(1), 0);
        of(20, "BAD;");
        for (int parcel : new int[] {4, 7, -1, -2, MIN, MAX}) {
            refused("face(" + parcel + ")", BAD, ThoughtEdges::four, y -> y.face(parcel));
        }
        is("nobody is there", new OpenOrTake().face(0), BAD);
        of(20, "NOT.");
        OpenOrTake x = Due.party(2, 2);
        Due.law(x, "o=0");
        is("taken whatever it is worth", x.face(0), NOT);
        is("the last one is not", x.face(1), 0);
        of(20, "FACE: the least x (0 .. 99) by which,");
        is("0: nobody takes it", two(0).face(0), 0);
        is("1", two(1).face(0), 1);
        is("98", two(98).face(0), 98);
        is("99", two(99).face(0), 99);
        of(20, "it is TAKEN by nobody in the EVENING; NOT.");
        x = two(50);
        x.mend(11, 0, 30);
        is("30 is no more than 30", x.face(0), 20);
        x = people(2);
        x.mend(1, 0, 30);
        is("nobody takes the last one", x.face(1), 0);
        x.mend(0, 4, 1);
        is("but by AGAIN", x.face(1), 30);
        x = people(3);
        x.mend(10, 0, 20);
        x.mend(20, 0, 30);
        is("neither 1 nor 2", x.face(0), 30);
        x.open();
        x.take(0);
        is("in thought, from the beginning", x.face(0), 30);
    }

    private void faceIsOf() {
        of(20, "all others' WORTHS of a PARCEL being less by x (0 at least)");
        OpenOrTake x = Due.party(2, 2);
        Due.law(x, "o?40;w+x");
        Due.worths(x, new int[][] {{3, 0}, {50, 0}});
        // 53 - 2x as long as x is 3 at most, then 50 - x: no more than 40 by 10; below 0 it were 7.
        is("0 at least", x.face(0), 10);
        is("worths are as they were", x.of(10, 0) + x.of(0, 0), 53);
        x = two(50);
        x.mend(11, 0, 40);
        is("of that parcel alone", x.face(0), 10);
        of(20, "FACE: all PEOPLE's WORTHS of that PARCEL are less by x, nobody's is left out.");
        x = Due.party(2, 2);
        Due.law(x, "o?40;w+x");
        Due.worths(x, new int[][] {{25, 0}, {30, 0}});
        is("55 - 2x, who has it too", x.face(0), 8);
        x = people(3);
        x.mend(0, 4, 1);
        x.mend(2, 0, 7);
        x.mend(22, 0, 99);
        is("who takes it at the end", x.face(2), 7);
    }

    /** By longs: whose WORTHS a place has together when each one opens the parcel of its place. */
    private static long sum(int seed, int n, int place, int[] lot, int[][] worths) {
        long z = seed;
        long sum = 0;
        for (int draw = 0; draw < n; draw++) {
            int[] drawn = lot.clone();
            for (int i = lot.length - 1; i >= 1; i--) {
                z = z * 1103515245L + 12345L & 0xffffffffL;
                int j = (int) ((z >> 8) % (i + 1));
                int who = drawn[i];
                drawn[i] = drawn[j];
                drawn[j] = who;
            }
            sum += worths[drawn[place]][place];
        }
        return sum;
    }

    private static int[][] mixed(int n) {
        int[][] worths = new int[n][n];
        for (int i = 0; i < n; i++) {
            for (int k = 0; k < n; k++) {
                worths[i][k] = (37 * i + 11 * k + 5 * i * k) % 100;
            }
        }
        return worths;
    }

    private void numbers() {
        of(21, "NUMBERS: of a place; UNLIKE (-1).");
        OpenOrTake x = openers(2);
        Due.worths(x, new int[][] {{10, 20}, {40, 70}});
        // SEED 0: z = 12345, z >>> 8 = 48: places 1 and 0 change.
        is("place 0", x.numbers(0, 1, 0), 40);
        is("place 1", x.numbers(0, 1, 1), 20);
        is("unlike", x.numbers(0, 1, -1), 20);
        is("one alone", people(1).numbers(5, 1, 0), 0);
        is("nobody is unlike", new OpenOrTake().numbers(5, 1, -1), 0);
        of(21, "BAD.");
        for (int place : new int[] {2, 7, -2, MIN, MAX}) {
            refused("place " + place, BAD, () -> people(2), y -> y.numbers(5, 1, place));
        }
        for (int n : new int[] {0, 31, -1, MIN, MAX}) {
            refused("n " + n, BAD, () -> people(2), y -> y.numbers(5, n, 0));
            refused("n " + n + ", unlike", BAD, () -> people(2), y -> y.numbers(5, n, -1));
        }
        is("nobody's place", new OpenOrTake().numbers(5, 1, 0), BAD);
        of(21, "NUMBERS: n EVENINGS (1 .. 30) by a SEED:");
        x = people(1);
        x.mend(0, 0, 9);
        for (int n = 1; n <= 30; n++) {
            is("n " + n, x.numbers(5, n, 0), 9 * n);
        }
        of(21, "UNLIKE: the greatest of these less the least.");
        is("one alone", x.numbers(5, 30, -1), 0);
        x = openers(3);
        Due.worths(x, new int[][] {{50, 20, 90}, {50, 20, 90}, {50, 20, 90}});
        is("90 less 20", x.numbers(5, 1, -1), 70);
        is("thirty times", x.numbers(5, 30, -1), 2100);
    }

    private void lotsOfNumbers() {
        of(21, "for i from the last place of THE LOT to 1: z = z * 1103515245 + 12345 (an int; SEED at first), places"
                + " i and (z >>> 8) % (i + 1) change");
        for (int seed : new int[] {0, 1, -1, 2, 12345, MIN, MAX, 1 << 30}) {
            for (int n : new int[] {2, 3, 7}) {
                OpenOrTake x = openers(n);
                Due.worths(x, mixed(n));
                int[] lot = new int[n];
                for (int place = 0; place < n; place++) {
                    lot[place] = place;
                }
                for (int place = 0; place < n; place++) {
                    String what = "seed " + seed + ", place " + place + " of " + n;
                    is(what + ", one", x.numbers(seed, 1, place), sum(seed, 1, place, lot, mixed(n)));
                    is(what + ", thirty", x.numbers(seed, 30, place), sum(seed, 30, place, lot, mixed(n)));
                }
            }
        }
        of(21, "(from THE LOT as it is, each time anew)");
        OpenOrTake x = openers(4);
        Due.worths(x, mixed(4));
        x.swap(3);
        x.swap(12);
        for (int place = 0; place < 4; place++) {
            int[] lot = {3, 2, 1, 0};
            is("place " + place, x.numbers(77, 9, place), sum(77, 9, place, lot, mixed(4)));
            is("the lot stays", x.of(place, 10), lot[place]);
        }
        of(21, ": WORTHS that who stood at a place went home with, together;");
        x = people(2);
        Due.worths(x, new int[][] {{0, 0}, {60, 50}});
        // Places change with SEED 0, so 1 opens 0, and 0, to whom all is worth 0, opens 1.
        is("1 at place 0", x.numbers(0, 1, 0), 60);
        // They do not with SEED 3: 0 opens 0, 1 takes it from place 0, and 0 opens 1.
        is("by longs", (3 * 1103515245L + 12345 & 0xffffffffL) / 256 % 2, 1);
        is("1 at place 1", x.numbers(3, 1, 1), 60);
        is("0 at place 0", x.numbers(3, 1, 0), 0);
        x.mend(0, 4, 1);
        x.mend(0, 0, 90);
        is("with AGAIN", x.numbers(3, 1, 0), 90);
        is("and who had it", x.numbers(3, 1, 1), 50);
    }

    private static OpenOrTake told(OpenOrTake x, long... parcels) {
        Due.row(x, 0, 0, parcels);
        return x;
    }

    private static OpenOrTake holds(int sort) {
        OpenOrTake x = people(2);
        x.body(0);
        x.keep(0, 0);
        if (sort >= 0) {
            x.row(0, sort, 2);
        }
        return x;
    }

    private void judge() {
        of(22, "JUDGED.");
        is("the first one's is another", told(openers(3), 1, 1, 2).judge(0), 0);
        is("the last one's", told(openers(3), 0, 1, 0).judge(0), 2);
        of(22, "BAD,");
        for (int shelf : new int[] {-1, 6, MIN, MAX}) {
            refused("shelf " + shelf, BAD, () -> told(openers(3), 0, 1, 2), y -> y.judge(shelf));
        }
        OpenOrTake x = openers(3);
        Due.row(x, 5, 0, 0, 2);
        is("shelf 5", x.judge(5), 1);
        of(22, "-11,");
        refused("nothing there", NOTHING_THERE, () -> people(2), y -> y.judge(0));
        of(22, "-12 (no ROW of bytes);");
        for (int sort : new int[] {-1, 1, 2, 3, 4}) {
            refused("sort " + sort + " (-1: a body)", OTHER_KIND, () -> holds(sort), y -> y.judge(0));
        }
        of(22, "NOT.");
        is("all as told", told(openers(3), 0, 1, 2).judge(0), NOT);
        is("nobody is there", told(new OpenOrTake(), 5).judge(0), NOT);
        of(22, "TOLD EVENING: a ROW of bytes on a SHELF: PARCELS by PEOPLE: JUDGED: the first of PEOPLE who does not"
                + " go home with it;");
        x = openers(3);
        x.swap(2);
        is("by people, not by places", told(x, 2, 1, 0).judge(0), NOT);
        is("0 has 2", told(x, 0, 1, 2).judge(0), 0);
        is("a byte below 0", told(openers(2), 0, -1).judge(0), 1);
        is("no parcel's number", told(openers(2), 0, 2).judge(0), 1);
        is("257 is the byte 1", told(openers(2), 0, 257).judge(0), NOT);
        is("two of them: the first", told(openers(3), 0, 0, 0).judge(0), 1);
        of(22, "NOT (also if it ends before; what is behind PEOPLE does not count).");
        is("none is told", told(openers(3)).judge(0), NOT);
        is("the last one lacks", told(openers(3), 0, 1).judge(0), NOT);
        is("one behind them", told(openers(3), 0, 1, 2, 9).judge(0), NOT);
        is("many behind them", told(openers(1), 0, 9, 9, 9, 9, 9, 9, 9, 9).judge(0), NOT);
    }

    private void lots() {
        of(23, "LOTS.");
        is("one of six", told(openers(3), 0, 1, 2).lots(0), 1);
        is("none", told(openers(3), 0, 0, 2).lots(0), 0);
        of(23, "BAD,");
        for (int shelf : new int[] {-1, 6, MIN, MAX}) {
            refused("shelf " + shelf, BAD, () -> told(openers(3), 0, 1, 2), y -> y.lots(shelf));
        }
        OpenOrTake x = openers(3);
        Due.row(x, 5, 0, 0);
        is("shelf 5", x.lots(5), 2);
        of(23, "-11,");
        refused("nothing there", NOTHING_THERE, () -> people(2), y -> y.lots(0));
        of(23, "-12.");
        for (int sort : new int[] {-1, 1, 2, 3, 4}) {
            refused("sort " + sort + " (-1: a body)", OTHER_KIND, () -> holds(sort), y -> y.lots(0));
        }
        of(23, "LOTS: of all rows of PEOPLE by how many it would be so");
        is("nobody: one row", told(new OpenOrTake(), 5).lots(0), 1);
        is("one", told(people(1), 0).lots(0), 1);
        is("one, not so", told(people(1), 1).lots(0), 0);
        is("one of 5040", told(openers(7), 6, 5, 4, 3, 2, 1, 0).lots(0), 1);
        x = told(openers(3), 2, 0, 1);
        x.swap(2);
        x.open();
        is("whatever the lot is, and who has opened", x.lots(0), 1);
        is("another thought", x.evening(0, 1), 3);
        is("and once more", x.lots(0), 1);
        x = people(3);
        x.mend(10, 0, 9);
        // 1 opens or takes 0. So 0 has 1 by 0 1 2, by 1 0 2 and by 2 0 1, by the others 2.
        is("0 has 1", told(x, 1).lots(0), 3);
        is("0 has 2", told(x, 2).lots(0), 3);
        is("0 has none", told(x, -1).lots(0), 0);
        x = told(openers(3), 2);
        x.mend(2, 0, 9);
        is("0 is the last by two", x.lots(0), 2);
        x.mend(0, 4, 1);
        is("or the first, by AGAIN", x.lots(0), 4);
        of(23, "(what lacks does not matter)");
        is("nothing is told", told(openers(7)).lots(0), 5040);
        is("one of seven is", told(openers(7), 6).lots(0), 720);
        is("five of seven are", told(openers(7), 6, 5, 4, 3, 2).lots(0), 2);
        is("six of seven are", told(openers(7), 6, 5, 4, 3, 2, 1).lots(0), 1);
        is("what is behind PEOPLE neither", told(openers(2), 1, 0, 7, 7).lots(0), 1);
    }
}
