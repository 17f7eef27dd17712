/** Promises 31 to 37: shelves, rows, what is taken for what, and how many. */
public final class ShelvesTest {
    private static final Due due = new Due("ShelvesTest");
    private static final long LACKS = Long.MIN_VALUE;

    public static void main(String[] args) {
        keep();
        row();
        put();
        lowestBits();
        element();
        shift();
        shiftRefused();
        taken();
        count();
        due.end();
    }

    private static void keep() {
        OpenOrTake x = new OpenOrTake();
        due.is("no such body", x.keep(0, 0), -1);
        due.is("nothing", x.keep(0, -1), 1);
        x.body(3);
        due.is("a body", x.keep(5, 0), 1);
        due.is("it is there", x.taken(5, 0), 3);
        due.is("keep(6, 0)", x.keep(6, 0), -1);
        due.is("keep(-1, 0)", x.keep(-1, 0), -1);
        due.is("keep(0, 1)", x.keep(0, 1), -1);
        due.is("keep(0, -2)", x.keep(0, -2), -1);
        due.is("it is there still", x.taken(5, 3), 3);
        due.is("nothing then", x.keep(5, -1), 1);
        due.is("nothing there", x.taken(5, 3), -11);
        x.row(5, 0, 3);
        due.is("a body for a row", x.keep(5, 0), 1);
        due.is("no row then", x.put(5, 0, 1), -12);
    }

    private static void row() {
        OpenOrTake x = new OpenOrTake();
        for (int sort = 0; sort <= 4; sort++) {
            due.is("a row of sort " + sort, x.row(sort, sort, 60), 1);
            due.is("its last is 0", x.element(sort, 59), 0);
        }
        int[][] bad = {{-1, 0, 1}, {6, 0, 1}, {0, -1, 1}, {0, 5, 1}, {0, 0, 61}, {0, 5, -1}, {6, 0, -1}, {0, 0, 1000}};
        for (int[] call : bad) {
            due.is("row(" + call[0] + ", " + call[1] + ", " + call[2] + ")", x.row(call[0], call[1], call[2]), -1);
        }
        due.is("a size below 0", x.row(0, 0, -1), -14);
        due.is("far below", x.row(0, 0, Integer.MIN_VALUE), -14);
        due.is("the old one stands", x.element(0, 59), 0);
        x.put(1, 0, 9);
        x.row(1, 2, 1);
        due.is("0 at first", x.element(1, 0), 0);
        due.is("no elements", x.row(1, 3, 0), 1);
        due.is("so no place", x.put(1, 0, 1), -13);
        x.body(0);
        x.keep(1, 0);
        due.is("a row for a body", x.row(1, 0, 1), 1);
        due.is("no body then", x.taken(1, 0), -12);
    }

    private static void put() {
        OpenOrTake x = new OpenOrTake();
        due.is("put(-1)", x.put(-1, 0, 1), -1);
        due.is("put(6)", x.put(6, 0, 1), -1);
        due.is("nothing there", x.put(0, 0, 1), -11);
        due.is("nothing there ahead of a place", x.put(0, -1, 1), -11);
        x.body(0);
        x.keep(0, 0);
        due.is("a body there", x.put(0, 99, 1), -12);
        x.row(0, 3, 2);
        due.is("place -1", x.put(0, -1, 1), -13);
        due.is("place 2", x.put(0, 2, 1), -13);
        due.is("far below", x.put(0, Integer.MIN_VALUE, 1), -13);
        due.is("far above", x.put(0, Integer.MAX_VALUE, 1), -13);
        due.is("a long", x.put(0, 1, Long.MAX_VALUE), 1);
        due.is("it stands", x.element(0, 1), Long.MAX_VALUE);
        due.is("its neighbour is 0", x.element(0, 0), 0);
    }

    private static void lowestBits() {
        bits(0, 127, 127);
        bits(0, 128, -128);
        bits(0, -129, 127);
        bits(0, 256, 0);
        bits(1, 32768, -32768);
        bits(1, 65535, -1);
        bits(2, 1L << 31, Integer.MIN_VALUE);
        bits(2, (1L << 32) + 5, 5);
        bits(3, Long.MIN_VALUE + 1, Long.MIN_VALUE + 1);
        bits(4, 0, 0);
        bits(4, 1, 1);
        bits(4, 2, 1);
        bits(4, -1, 1);
        bits(4, 1L << 40, 1);
    }

    private static void bits(int sort, long v, long want) {
        OpenOrTake x = new OpenOrTake();
        x.row(2, sort, 3);
        due.is("put", x.put(2, 2, v), 1);
        due.is("sort " + sort + " of " + v, x.element(2, 2), want);
    }

    private static void element() {
        OpenOrTake x = new OpenOrTake();
        due.is("element(-1)", x.element(-1, 0), LACKS);
        due.is("element(6)", x.element(6, 0), LACKS);
        due.is("nothing there", x.element(0, 0), LACKS);
        x.body(0);
        x.keep(0, 0);
        due.is("a body there", x.element(0, 0), LACKS);
        x.row(0, 2, 2);
        due.is("place -1", x.element(0, -1), LACKS);
        due.is("place 2", x.element(0, 2), LACKS);
        due.is("place 1", x.element(0, 1), 0);
    }

    private static void shift() {
        OpenOrTake x = new OpenOrTake();
        Due.row(x, 0, 2, 1, 2, 3, 4, 5);
        Due.row(x, 1, 2, 9, 9, 9);
        due.is("to another", x.shift(0, 3, 1, 1, 2), 2);
        same(x, 1, 9, 4, 5);
        same(x, 0, 1, 2, 3, 4, 5);
        due.is("up in the same", x.shift(0, 0, 0, 1, 4), 4);
        same(x, 0, 1, 1, 2, 3, 4);
        due.is("down in the same", x.shift(0, 2, 0, 0, 3), 3);
        same(x, 0, 2, 3, 4, 3, 4);
        due.is("none at the end", x.shift(0, 5, 1, 3, 0), 0);
        due.is("none at all", x.shift(0, 0, 1, 0, 0), 0);
        same(x, 1, 9, 4, 5);
        due.is("the whole to itself", x.shift(0, 0, 0, 0, 5), 5);
        same(x, 0, 2, 3, 4, 3, 4);
    }

    private static void same(OpenOrTake x, int shelf, long... want) {
        for (int i = 0; i < want.length; i++) {
            due.is("element " + i, x.element(shelf, i), want[i]);
        }
    }

    private static void shiftRefused() {
        OpenOrTake x = new OpenOrTake();
        x.row(0, 0, 5);
        x.row(1, 0, 3);
        x.row(2, 4, 5);
        x.body(0);
        x.keep(3, 0);
        x.keep(4, 0);
        due.is("shelf -1", x.shift(-1, 0, 1, 0, 1), -1);
        due.is("other 6", x.shift(0, 0, 6, 0, 1), -1);
        due.is("BAD ahead of -11", x.shift(5, 0, 6, 0, 1), -1);
        due.is("nothing there", x.shift(5, 0, 0, 0, 1), -11);
        due.is("nothing at the other", x.shift(0, 0, 5, 0, 1), -11);
        due.is("-11 ahead of -12", x.shift(3, 0, 5, 0, 1), -11);
        due.is("a body", x.shift(3, 0, 0, 0, 1), -12);
        due.is("a body at the other", x.shift(0, 0, 3, 0, 1), -12);
        due.is("bodies", x.shift(3, 0, 4, 0, 0), -12);
        due.is("unlike sorts", x.shift(0, 0, 2, 0, 1), -12);
        due.is("-12 ahead of -13", x.shift(0, -1, 2, 0, 1), -12);
        int[][] places = {{-1, 0, 1}, {0, -1, 1}, {0, 0, -1}, {3, 0, 3}, {0, 1, 3}, {6, 0, 0}, {0, 4, 0},
            {Integer.MAX_VALUE, 0, 1}, {0, Integer.MAX_VALUE, 1}, {1, 1, Integer.MAX_VALUE},
            {Integer.MIN_VALUE, 0, 1}, {0, 0, Integer.MIN_VALUE}};
        for (int[] place : places) {
            due.is("shift(0, " + place[0] + ", 1, " + place[1] + ", " + place[2] + ")",
                    x.shift(0, place[0], 1, place[1], place[2]), -13);
        }
    }

    private static void taken() {
        int[] above = {-1, 0, 0, 2, 1, 3, 0, 6};
        OpenOrTake x = new OpenOrTake();
        due.is("nothing there", x.taken(0, 0), -11);
        for (int kind = 0; kind < 8; kind++) {
            x.body(kind);
            x.keep(0, kind);
            for (int k = 0; k < 8; k++) {
                boolean under = false;
                for (int at = kind; at >= 0; at = above[at]) {
                    under = under || at == k;
                }
                due.is("kind " + kind + " for " + k, x.taken(0, k), under ? kind : -12);
            }
        }
        due.is("taken(0, 8)", x.taken(0, 8), -1);
        due.is("taken(0, -1)", x.taken(0, -1), -1);
        due.is("taken(6, 0)", x.taken(6, 0), -1);
        due.is("taken(-1, 0)", x.taken(-1, 0), -1);
        due.is("BAD ahead of -11", x.taken(1, 8), -1);
        x.row(0, 0, 1);
        due.is("a row", x.taken(0, 0), -12);
    }

    private static void count() {
        OpenOrTake x = Due.party(0, 0, 0);
        due.is("count(-1)", x.count(-1), -1);
        due.is("count(7)", x.count(7), -1);
        due.is("people", x.count(0), 3);
        due.is("wrapped", x.count(1), 3);
        x.mend(0, 3, 1);
        x.open();
        due.is("wrapped", x.count(1), 2);
        due.is("safe", x.count(2), 0);
        x.take(0);
        due.is("safe", x.count(2), 1);
        x.feed('w');
        due.is("bytes", x.count(3), 1);
        due.is("changes", x.count(4), 1);
        x.body(0);
        due.is("bodies", x.count(5), 1);
        x.act(0, 3, 0);
        due.is("bodies that ran", x.count(6), 4);
    }
}
