/** Promises 1 to 6. */
public final class PeopleTest {
    private static final Due due = new Due("PeopleTest");

    public static void main(String[] args) {
        aNewObject();
        persons();
        peopleFromRows();
        mendings();
        refusedMendings();
        whatIsOf();
        swaps();
        due.end();
    }

    private static void aNewObject() {
        OpenOrTake x = new OpenOrTake();
        for (int what = 0; what <= 6; what++) {
            due.is("new: count(" + what + ")", x.count(what), 0);
        }
        due.is("new: most", x.of(0, 3), 3);
        due.is("new: again", x.of(0, 4), 0);
        due.is("new: nobody's worth", x.of(0, 0), -1);
        due.is("new: nobody's turn", x.turn(), -2);
        due.is("new: led", x.led(2), 0);
        for (int shelf = 0; shelf <= 5; shelf++) {
            due.is("new: shelf " + shelf, x.put(shelf, 0, 1), -11);
        }
    }

    private static void persons() {
        OpenOrTake x = new OpenOrTake();
        for (int i = 0; i < 7; i++) {
            due.is("person " + i, x.person(i % 3), i);
            due.is("way of " + i, x.of(i, 2), i % 3);
            due.is("place " + i, x.of(i, 10), i);
        }
        due.is("an eighth", x.person(0), -3);
        due.is("a way too much of an eighth", x.person(3), -1);
        x.open();
        due.is("STATE ahead of FULL", x.person(0), -5);
        due.is("BAD ahead of STATE", x.person(-1), -1);
        due.is("people", x.count(0), 7);

        x = Due.party(0, 0, 0);
        x.swap(2);
        due.is("who comes behind a swap is last", x.person(0), 3);
        due.is("place 0 behind it", x.of(0, 10), 2);
        due.is("place 3 behind it", x.of(3, 10), 3);
        due.is("its own like of others", x.of(30, 1), 5);
        due.is("its worth", x.of(33, 0), 0);
        x.open();
        due.is("while an evening goes on", x.person(0), -5);
        x.goOn();
        due.is("behind its end", x.person(0), -5);
        x.anew();
        due.is("behind anew", x.person(1), 4);
    }

    private static void peopleFromRows() {
        OpenOrTake x = new OpenOrTake();
        Due.row(x, 0, 0, 0, 1, 2, 0, 1, 2, 0, 1, 2);
        due.is("a shelf too low", x.people(-1, 0, 1), -1);
        due.is("a shelf too high", x.people(6, 0, 1), -1);
        due.is("n 0", x.people(0, 0, 0), -1);
        due.is("n 8", x.people(0, 0, 8), -1);
        due.is("nothing on the shelf", x.people(5, 0, 1), 0);
        due.is("i below 0", x.people(0, -1, 2), 0);
        due.is("i far below 0", x.people(0, Integer.MIN_VALUE, 7), 0);
        due.is("i at the row's end", x.people(0, 9, 1), 0);
        due.is("i far above", x.people(0, Integer.MAX_VALUE, 7), 0);
        due.is("two of them", x.people(0, 1, 2), 2);
        due.is("way of the first", x.of(0, 2), 1);
        due.is("way of the second", x.of(1, 2), 2);
        due.is("till the row ends", x.people(0, 7, 3), 2);
        due.is("till it is full", x.people(0, 0, 7), 3);
        due.is("full", x.people(0, 0, 1), 0);
        due.is("all of them", x.count(0), 7);

        x = new OpenOrTake();
        Due.row(x, 1, 0, 1, -1, 1);
        due.is("one below", x.people(1, 0, 3), 1);
        Due.row(x, 1, 0, 256, 3);
        due.is("256 is a byte 0", x.people(1, 0, 3), 1);
        x.row(2, 2, 3);
        due.is("a row of ints", x.people(2, 0, 1), -12);
        due.is("BAD ahead of -12", x.people(2, 0, 0), -1);
        due.is("-12 with i below 0", x.people(2, -1, 1), -12);
        x.body(0);
        x.keep(3, 0);
        due.is("a body", x.people(3, 0, 1), -12);
        x.open();
        due.is("-12 ahead of STATE", x.people(2, 0, 1), -12);
        due.is("STATE", x.people(1, 0, 1), -5);
        due.is("STATE with nothing there", x.people(5, 0, 1), -5);
        due.is("STATE with i below 0", x.people(1, -1, 1), -5);
        due.is("nobody more came", x.count(0), 2);
    }

    private static void mendings() {
        OpenOrTake x = Due.party(1, 2, 0);
        due.is("a worth", x.mend(12, 0, 99), 0);
        due.is("again", x.mend(12, 0, 1), 99);
        due.is("it stands", x.of(12, 0), 1);
        due.is("not the other way round", x.of(21, 0), 0);
        due.is("a like", x.mend(12, 1, 9), 5);
        due.is("it is another thing", x.of(12, 0), 1);
        due.is("of like", x.of(12, 1), 9);
        due.is("not the other way round", x.of(21, 1), 5);
        due.is("a way", x.mend(2, 2, 2), 0);
        due.is("of way", x.of(2, 2), 2);
        due.is("way 0 again", x.mend(2, 2, 0), 2);
        due.is("worth 0 again", x.mend(12, 0, 0), 1);
        due.is("like 0", x.mend(12, 1, 0), 9);
        due.is("most", x.mend(0, 3, 1), 3);
        due.is("of most", x.of(0, 3), 1);
        due.is("again 1", x.mend(0, 4, 1), 0);
        due.is("of again", x.of(0, 4), 1);
        due.is("again 0", x.mend(0, 4, 0), 1);
        x.open();
        due.is("while an evening goes on", x.mend(0, 0, 7), 0);
        due.is("it stands", x.of(0, 0), 7);
    }

    private static void refusedMendings() {
        OpenOrTake x = Due.party(0, 0);
        int[][] bad = {
            {-1, 0, 0}, {2, 0, 0}, {20, 0, 0}, {12, 0, 0}, {9, 0, 0}, {70, 0, 0}, {100, 0, 0},
            {Integer.MIN_VALUE, 0, 0}, {Integer.MAX_VALUE, 0, 0}, {0, 0, -1}, {0, 0, 100},
            {0, 1, 5}, {11, 1, 5}, {2, 1, 5}, {20, 1, 5}, {-1, 1, 5}, {1, 1, -1}, {1, 1, 10},
            {-1, 2, 0}, {2, 2, 0}, {10, 2, 0}, {0, 2, -1}, {0, 2, 3},
            {1, 3, 1}, {-1, 3, 1}, {0, 3, 0}, {0, 3, 4}, {1, 4, 1}, {0, 4, -1}, {0, 4, 2},
            {0, -1, 0}, {0, 5, 0}, {0, 10, 0}, {0, 11, 0}
        };
        for (int[] call : bad) {
            due.is("mend(" + call[0] + ", " + call[1] + ", " + call[2] + ")",
                    x.mend(call[0], call[1], call[2]), -1);
        }
        due.is("no change came", x.count(4), 0);
        due.is("laws are there with nobody", new OpenOrTake().mend(0, 3, 2), 3);
    }

    private static void whatIsOf() {
        OpenOrTake x = Due.party(0, 0, 0);
        Due.worths(x, new int[][] {{1, 0, 0}, {90, 0, 0}, {0, 0, 0}});
        due.is("nobody has one", x.of(1, 11), -2);
        due.is("wrapped", x.of(0, 13), 1);
        x.open();
        due.is("opened", x.of(0, 13), 0);
        due.is("the next is not", x.of(1, 13), 1);
        due.is("has", x.of(0, 11), 0);
        x.take(0);
        due.is("robbed", x.of(0, 11), -2);
        due.is("has", x.of(1, 11), 0);
        due.is("taken", x.of(0, 12), 1);
        due.is("another was not", x.of(1, 12), 0);
        for (int what = 10; what <= 13; what++) {
            due.is("number 3, " + what, x.of(3, what), -1);
            due.is("number -1, " + what, x.of(-1, what), -1);
        }
        int[] whats = {-1, 5, 6, 7, 8, 9, 14, Integer.MAX_VALUE, Integer.MIN_VALUE};
        for (int what : whats) {
            due.is("what " + what, x.of(0, what), -1);
        }
        due.is("like of oneself", x.of(11, 1), -1);
        due.is("most of number 1", x.of(1, 3), -1);
        due.is("again of number 1", x.of(1, 4), -1);
    }

    private static void swaps() {
        OpenOrTake x = Due.party(0, 0, 0, 0);
        due.is("places 0 and 3", x.swap(3), 3);
        due.is("place 3", x.of(3, 10), 0);
        due.is("places 3 and 1", x.swap(31), 1);
        due.is("place 1", x.of(1, 10), 0);
        due.is("place 0", x.of(0, 10), 3);
        int[] bad = {0, 11, 33, 4, 40, 14, -1, 70, 100, Integer.MIN_VALUE, Integer.MAX_VALUE};
        for (int ij : bad) {
            due.is("swap(" + ij + ")", x.swap(ij), -1);
        }
        due.is("who opens first", x.turn(), 3);
        x.open();
        due.is("an evening has begun", x.swap(1), -5);
        due.is("BAD ahead of STATE", x.swap(11), -1);
        x.goOn();
        due.is("it has ended", x.swap(1), -5);
        x.anew();
        due.is("anew", x.swap(1), 0);
    }
}
