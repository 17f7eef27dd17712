/** The edges of promises 31 to 37. */
final class ShelvesEdges extends Edges {
    private static final long LACKS = Long.MIN_VALUE;

    ShelvesEdges(Sentences sentences) {
        super(sentences);
    }

    @Override
    void hold() {
        keep();
        shelves();
        row();
        put();
        lowestBits();
        element();
        shift();
        shiftRefused();
        taken();
        count();
        refusals();
    }

    /** Shelf 0: a body of kind 3; 1: bytes 1, 2, 3; 2: longs 4, 5; 3: no bytes; 4: nothing; 5: bytes 6, 7. */
    private static OpenOrTake full() {
        OpenOrTake x = new OpenOrTake();
        x.body(3);
        x.keep(0, 0);
        Due.row(x, 1, 0, 1, 2, 3);
        Due.row(x, 2, 3, 4, 5);
        x.row(3, 0, 0);
        Due.row(x, 5, 0, 6, 7);
        return x;
    }

    private void keep() {
        of(31, "A SHELF holds nothing (body -1), or a BODY: 1.");
        OpenOrTake x = full();
        is("a body", x.keep(5, 0), 1);
        is("it is there", x.taken(5, 3), 3);
        is("the row is not", x.put(5, 0, 1), OTHER_KIND);
        is("nothing", x.keep(5, -1), 1);
        is("nothing is there", x.taken(5, 3), NOTHING_THERE);
        is("nothing for a row", x.keep(1, -1), 1);
        is("nothing is there", x.put(1, 0, 1), NOTHING_THERE);
        is("nothing for nothing", x.keep(4, -1), 1);
        of(31, "BAD.");
        for (int shelf : new int[] {-1, 6, MIN, MAX}) {
            refused("shelf " + shelf, BAD, ShelvesEdges::full, y -> y.keep(shelf, 0));
            refused("nothing on shelf " + shelf, BAD, ShelvesEdges::full, y -> y.keep(shelf, -1));
        }
        for (int body : new int[] {1, 50, -2, MIN, MAX}) {
            refused("body " + body, BAD, ShelvesEdges::full, y -> y.keep(1, body));
        }
        is("no body is there", new OpenOrTake().keep(0, 0), BAD);
    }

    private void shelves() {
        of(31, "SHELVES 0 .. 5 each hold nothing (at first), a BODY, or a ROW");
        OpenOrTake x = new OpenOrTake();
        for (int shelf = 0; shelf <= 5; shelf++) {
            is("at first on shelf " + shelf, x.taken(shelf, 0), NOTHING_THERE);
        }
        for (int shelf = 0; shelf <= 5; shelf++) {
            x.body(shelf);
            x.keep(shelf, shelf);
        }
        for (int shelf = 0; shelf <= 5; shelf++) {
            is("a body on shelf " + shelf, x.taken(shelf, 0), shelf);
        }
        for (int shelf = 0; shelf <= 5; shelf++) {
            x.row(shelf, 3, shelf + 1);
            x.put(shelf, shelf, 10 + shelf);
        }
        for (int shelf = 0; shelf <= 5; shelf++) {
            is("a row on shelf " + shelf, x.element(shelf, shelf), 10 + shelf);
            is("behind its last", x.element(shelf, shelf + 1), LACKS);
        }
    }

    private void row() {
        of(32, "A SHELF holds a ROW: 1.");
        OpenOrTake x = full();
        is("for a body", x.row(0, 0, 1), 1);
        is("no body is there", x.taken(0, 0), OTHER_KIND);
        is("for nothing", x.row(4, 0, 1), 1);
        is("an element", x.element(4, 0), 0);
        of(32, "BAD (sort, n above 60);");
        for (int shelf : new int[] {-1, 6, MIN, MAX}) {
            refused("shelf " + shelf, BAD, ShelvesEdges::full, y -> y.row(shelf, 0, 1));
        }
        for (int sort : new int[] {-1, 5, MIN, MAX}) {
            refused("sort " + sort, BAD, ShelvesEdges::full, y -> y.row(1, sort, 1));
        }
        for (int n : new int[] {61, 1000, MAX}) {
            refused("n " + n, BAD, ShelvesEdges::full, y -> y.row(1, 0, n));
        }
        is("BAD ahead of -14, sort", full().row(1, 5, -1), BAD);
        is("BAD ahead of -14, shelf", full().row(6, 0, -1), BAD);
        of(32, "-14.");
        for (int n : new int[] {-1, -2, -61, MIN}) {
            refused("n " + n, SIZE_BELOW_0, ShelvesEdges::full, y -> y.row(1, 0, n));
        }
        of(32, "of 0 bytes, 1 shorts, 2 ints, 3 longs, 4 booleans, of 0 .. 60 elements");
        for (int sort = 0; sort <= 4; sort++) {
            is("sixty", x.row(1, sort, 60), 1);
            is("the last", x.put(1, 59, 1), 1);
            is("behind it", x.put(1, 60, 1), NO_PLACE);
            is("none", x.row(2, sort, 0), 1);
            is("no first", x.put(2, 0, 1), NO_PLACE);
            is("one", x.row(3, sort, 1), 1);
            is("the first", x.put(3, 0, 1), 1);
            is("no second", x.put(3, 1, 1), NO_PLACE);
        }
        of(32, "0 at first (false);");
        for (int sort = 0; sort <= 4; sort++) {
            Due.row(x, 5, sort, 1, 1, 1, 1);
            x.row(5, sort, 4);
            for (int i = 0; i < 4; i++) {
                is("element " + i + " of a new row", x.element(5, i), 0);
            }
        }
    }

    private void put() {
        of(33, "Element i of a ROW becomes v: 1.");
        OpenOrTake x = full();
        is("the last", x.put(1, 2, 9), 1);
        is("the first", x.put(1, 0, 8), 1);
        is("8", x.element(1, 0), 8);
        is("as it was", x.element(1, 1), 2);
        is("9", x.element(1, 2), 9);
        of(33, "BAD,");
        for (int shelf : new int[] {-1, 6, MIN, MAX}) {
            refused("shelf " + shelf, BAD, ShelvesEdges::full, y -> y.put(shelf, 0, 1));
        }
        of(33, "-11,");
        refused("nothing there", NOTHING_THERE, ShelvesEdges::full, y -> y.put(4, 0, 1));
        refused("-11 ahead of -13", NOTHING_THERE, ShelvesEdges::full, y -> y.put(4, -1, 1));
        of(33, "-12,");
        refused("a body", OTHER_KIND, ShelvesEdges::full, y -> y.put(0, 0, 1));
        refused("-12 ahead of -13", OTHER_KIND, ShelvesEdges::full, y -> y.put(0, 60, 1));
        of(33, "-13.");
        for (int i : new int[] {3, 60, -1, MIN, MAX}) {
            refused("place " + i, NO_PLACE, ShelvesEdges::full, y -> y.put(1, i, 1));
        }
        refused("a row of none", NO_PLACE, ShelvesEdges::full, y -> y.put(3, 0, 1));
    }

    private void lowestBits() {
        of(33, "what is put in keeps its lowest bits");
        bits(0, 127, 127);
        bits(0, 128, -128);
        bits(0, -128, -128);
        bits(0, -129, 127);
        bits(0, 256, 0);
        bits(0, Long.MAX_VALUE, -1);
        bits(1, 32767, 32767);
        bits(1, 32768, -32768);
        bits(1, -32769, 32767);
        bits(1, 65536, 0);
        bits(2, MAX, MAX);
        bits(2, MAX + 1L, MIN);
        bits(2, MIN - 1L, MAX);
        bits(2, 1L << 32, 0);
        bits(3, Long.MAX_VALUE, Long.MAX_VALUE);
        bits(3, Long.MIN_VALUE, Long.MIN_VALUE);
        bits(3, 1L << 32, 1L << 32);
        of(33, "(a boolean: whether it is not 0; 1 or 0)");
        bits(4, 0, 0);
        bits(4, 1, 1);
        bits(4, 2, 1);
        bits(4, -1, 1);
        bits(4, 256, 1);
        bits(4, 1L << 32, 1);
        bits(4, Long.MIN_VALUE, 1);
    }

    private void bits(int sort, long v, long want) {
        OpenOrTake x = new OpenOrTake();
        x.row(2, sort, 3);
        is("put", x.put(2, 1, v), 1);
        is(v + " in a row of sort " + sort, x.element(2, 1), want);
        is("its neighbours", x.element(2, 0) + x.element(2, 2), 0);
    }

    private void element() {
        of(34, "Element i of a ROW;");
        is("the first", full().element(1, 0), 1);
        is("the last", full().element(1, 2), 3);
        is("a long", full().element(2, 1), 5);
        of(34, "Long.MIN_VALUE: BAD, -11 to -13.");
        for (int shelf : new int[] {-1, 6, MIN, MAX}) {
            refusedElement("shelf " + shelf, shelf, 0);
        }
        refusedElement("nothing there", 4, 0);
        refusedElement("a body", 0, 0);
        for (int i : new int[] {3, 59, 60, -1, MIN, MAX}) {
            refusedElement("place " + i, 1, i);
        }
        refusedElement("a row of none", 3, 0);
    }

    private void refusedElement(String what, int shelf, int i) {
        refused(what, LACKS, ShelvesEdges::full, y -> y.element(shelf, i));
    }

    private static OpenOrTake shifted(int i, int other, int j, int n) {
        OpenOrTake x = new OpenOrTake();
        Due.row(x, 0, 2, 1, 2, 3, 4, 5);
        Due.row(x, 1, 2, 7, 8, 9);
        x.shift(0, i, other, j, n);
        return x;
    }

    private void holds(OpenOrTake x, int shelf, long... want) {
        for (int i = 0; i < want.length; i++) {
            is("element " + i, x.element(shelf, i), want[i]);
        }
        is("behind them", x.element(shelf, want.length), LACKS);
    }

    private void shift() {
        of(35, "n elements of a ROW from i on come to another one (or the same) from j on");
        holds(shifted(3, 1, 1, 2), 1, 7, 4, 5);
        holds(shifted(3, 1, 1, 2), 0, 1, 2, 3, 4, 5);
        holds(shifted(0, 1, 0, 3), 1, 1, 2, 3);
        holds(shifted(4, 0, 0, 1), 0, 5, 2, 3, 4, 5);
        holds(shifted(0, 0, 0, 5), 0, 1, 2, 3, 4, 5);
        of(35, ", as they all were before: n.");
        holds(shifted(0, 0, 1, 4), 0, 1, 1, 2, 3, 4);
        holds(shifted(1, 0, 0, 4), 0, 2, 3, 4, 5, 5);
        holds(shifted(0, 0, 2, 3), 0, 1, 2, 1, 2, 3);
        OpenOrTake x = shifted(0, 1, 0, 0);
        is("three", x.shift(0, 0, 1, 0, 3), 3);
        is("none", x.shift(0, 0, 1, 0, 0), 0);
        is("none, behind the last ones", x.shift(0, 5, 1, 3, 0), 0);
        x.row(2, 2, 0);
        is("none of a row of none", x.shift(2, 0, 2, 0, 0), 0);
        x.row(3, 0, 60);
        x.row(4, 0, 60);
        is("sixty", x.shift(3, 0, 4, 0, 60), 60);
    }

    private void shiftRefused() {
        of(35, "BAD,");
        for (int shelf : new int[] {-1, 6, MIN, MAX}) {
            refused("from shelf " + shelf, BAD, ShelvesEdges::full, y -> y.shift(shelf, 0, 1, 0, 1));
            refused("to shelf " + shelf, BAD, ShelvesEdges::full, y -> y.shift(1, 0, shelf, 0, 1));
        }
        is("BAD ahead of -11", full().shift(4, 0, 6, 0, 1), BAD);
        of(35, "-11 (either),");
        refused("from nothing", NOTHING_THERE, ShelvesEdges::full, y -> y.shift(4, 0, 1, 0, 1));
        refused("to nothing", NOTHING_THERE, ShelvesEdges::full, y -> y.shift(1, 0, 4, 0, 1));
        refused("from a body to nothing: ahead of -12", NOTHING_THERE, ShelvesEdges::full,
                y -> y.shift(0, 0, 4, 0, 1));
        refused("from nothing, n -1: ahead of -13", NOTHING_THERE, ShelvesEdges::full, y -> y.shift(4, 0, 1, 0, -1));
        of(35, "-12 (no ROWS, or of unlike sorts),");
        refused("from a body", OTHER_KIND, ShelvesEdges::full, y -> y.shift(0, 0, 1, 0, 1));
        refused("to a body", OTHER_KIND, ShelvesEdges::full, y -> y.shift(1, 0, 0, 0, 1));
        refused("from a body to itself", OTHER_KIND, ShelvesEdges::full, y -> y.shift(0, 0, 0, 0, 0));
        refused("bytes to longs", OTHER_KIND, ShelvesEdges::full, y -> y.shift(1, 0, 2, 0, 1));
        refused("longs to bytes", OTHER_KIND, ShelvesEdges::full, y -> y.shift(2, 0, 1, 0, 1));
        refused("ahead of -13", OTHER_KIND, ShelvesEdges::full, y -> y.shift(1, -1, 2, 0, 1));
        refused("n -1: ahead of -13", OTHER_KIND, ShelvesEdges::full, y -> y.shift(1, 0, 2, 0, -1));
        of(35, "-13 (n below 0, too).");
        int[][] places = {{-1, 0, 1}, {0, -1, 1}, {3, 0, 1}, {0, 2, 1}, {0, 0, 3}, {2, 0, 2}, {1, 1, 2}, {4, 0, 0},
            {0, 3, 0}, {-1, 0, 0}, {0, -1, 0}, {0, 0, -1}, {1, 1, -1}, {0, 0, MIN}, {MAX, 0, 1}, {0, MAX, 1},
            {1, 0, MAX}, {0, 1, MAX}, {MAX, 0, MAX}, {MIN, 0, 1}, {0, MIN, 1}, {MIN, MIN, MIN}};
        for (int[] place : places) {
            refused("shift(1, " + place[0] + ", 5, " + place[1] + ", " + place[2] + ")", NO_PLACE,
                    ShelvesEdges::full, y -> y.shift(1, place[0], 5, place[1], place[2]));
        }
        refused("of a row of none", NO_PLACE, ShelvesEdges::full, y -> y.shift(3, 0, 1, 0, 1));
        refused("to a row of none", NO_PLACE, ShelvesEdges::full, y -> y.shift(1, 0, 3, 0, 1));
    }

    private void taken() {
        of(36, "What a SHELF holds, taken for a BODY of KIND k (0 .. 7), or under it: its KIND.");
        is("its own kind", full().taken(0, 3), 3);
        is("the kind above", full().taken(0, 2), 3);
        is("the kind above all", full().taken(0, 0), 3);
        of(36, "BAD,");
        for (int shelf : new int[] {-1, 6, MIN, MAX}) {
            refused("shelf " + shelf, BAD, ShelvesEdges::full, y -> y.taken(shelf, 0));
        }
        for (int k : new int[] {-1, 8, MIN, MAX}) {
            refused("kind " + k, BAD, ShelvesEdges::full, y -> y.taken(0, k));
        }
        is("BAD ahead of -11", full().taken(4, 8), BAD);
        is("BAD ahead of -12", full().taken(1, -1), BAD);
        of(36, "-11,");
        for (int k = 0; k <= 7; k++) {
            int one = k;
            refused("nothing there for " + k, NOTHING_THERE, ShelvesEdges::full, y -> y.taken(4, one));
        }
        of(36, "-12.");
        for (int k : new int[] {1, 4, 5, 6, 7}) {
            refused("HOT for " + k, OTHER_KIND, ShelvesEdges::full, y -> y.taken(0, k));
        }
        refused("a row", OTHER_KIND, ShelvesEdges::full, y -> y.taken(1, 0));
        refused("a row of none", OTHER_KIND, ShelvesEdges::full, y -> y.taken(3, 0));
    }

    private void count() {
        of(37, "How many: 0 PEOPLE, 1 WRAPPED, 2 SAFE, 3 bytes on THE TAPE, 4 changes that may be UNDONE, 5 BODIES,");
        OpenOrTake x = lived();
        is("people", x.count(0), 4);
        is("wrapped", x.count(1), 2);
        is("safe", x.count(2), 0);
        is("bytes", x.count(3), 5);
        is("changes", x.count(4), 19);
        is("bodies", x.count(5), 2);
        x.mend(0, 3, 1);
        is("safe with MOST 1", x.count(2), 1);
        x.anew();
        is("all wrapped", x.count(1), 4);
        x.goOn();
        is("none wrapped", x.count(1), 0);
        is("seven people", people(7).count(0), 7);
        is("seven wrapped", people(7).count(1), 7);
        of(37, "6 bodies that ran in the latest act() (all, kept or not).");
        is("ten", lived().count(6), 10);
        x = lived();
        x.act(1, 0, 5);
        is("two", x.count(6), 2);
        x.act(9, 0, 5);
        is("none", x.count(6), 0);
        of(37, "BAD.");
        for (int what : new int[] {-1, 7, MIN, MAX}) {
            refused("count(" + what + ")", BAD, Edges::lived, y -> y.count(what));
        }
    }

    private void refusals() {
        of(33, "The host's REFUSALS: -11 nothing is there where something is wanted;");
        is("put", full().put(4, 0, 1), -11);
        is("taken", full().taken(4, 0), -11);
        is("judge", full().judge(4), -11);
        of(33, "-12 it is of another kind;");
        is("put to a body", full().put(0, 0, 1), -12);
        is("taken of a row", full().taken(1, 0), -12);
        is("judge of longs", full().judge(2), -12);
        of(33, "-13 a place that is not there;");
        is("put", full().put(1, 3, 1), -13);
        is("shift", full().shift(1, 0, 5, 0, 3), -13);
        of(32, "-14 a size below 0.");
        is("row", full().row(4, 0, -1), -14);
        of(33, "-11 to -14.");
        is("of several the one named first: -11", full().put(4, 60, 1), -11);
        is("of several the one named first: -12", full().put(0, 60, 1), -12);
    }
}
