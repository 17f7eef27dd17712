/** Promises 9 to 15: turns in deed. */
public final class DeedTest {
    private static final Due due = new Due("DeedTest");

    public static void main(String[] args) {
        nobody();
        opening();
        taking();
        safe();
        ways();
        likes();
        again();
        againThatChangesNothing();
        anew();
        led();
        due.end();
    }

    private static void nobody() {
        OpenOrTake x = new OpenOrTake();
        due.is("turn", x.turn(), -2);
        due.is("open", x.open(), -5);
        due.is("take", x.take(0), -1);
        due.is("goOn", x.goOn(), 0);
        due.is("anew", x.anew(), 0);
        x.mend(0, 4, 1);
        due.is("again", x.again(), -5);
        due.is("led who", x.led(0), -5);
        due.is("led what", x.led(1), -5);
        due.is("led turns", x.led(2), 0);
    }

    private static void opening() {
        OpenOrTake x = Due.party(0, 0, 0);
        x.swap(2);
        due.is("the first of the lot", x.turn(), 2);
        due.is("opens the least number", x.open(), 0);
        due.is("it is its own", x.of(2, 11), 0);
        due.is("the next of the lot", x.turn(), 1);
        due.is("opens", x.open(), 1);
        due.is("opens", x.open(), 2);
        due.is("the last one's", x.of(0, 11), 2);
        due.is("ended", x.turn(), -2);
        due.is("nobody's turn", x.open(), -5);
        due.is("nobody's turn", x.take(0), -5);
        due.is("no turns", x.goOn(), 0);
        due.is("BAD ahead of STATE", x.take(3), -1);
    }

    private static void taking() {
        OpenOrTake x = Due.party(0, 0, 0, 0);
        due.is("nothing is open", x.take(0), -2);
        due.is("a parcel that is not there", x.take(4), -1);
        due.is("a parcel below 0", x.take(-1), -1);
        x.open();
        due.is("a wrapped one", x.take(1), -2);
        due.is("from 0", x.take(0), 0);
        due.is("who is robbed has a turn", x.turn(), 0);
        due.is("not back at once", x.take(0), -2);
        due.is("opens", x.open(), 1);
        due.is("then the next of the lot", x.turn(), 2);
        due.is("from 0", x.take(1), 0);
        due.is("its turn", x.turn(), 0);
        due.is("another one than just now", x.take(0), 1);
        due.is("its turn", x.turn(), 1);
        due.is("what was taken from another just now may be taken", x.take(1), 2);
        due.is("its turn", x.turn(), 2);
        due.is("not back", x.take(1), -2);
        due.is("from 0", x.take(0), 0);
        due.is("how often 0", x.of(0, 12), 3);
        due.is("how often 1", x.of(1, 12), 2);
        due.is("opens", x.open(), 2);
        due.is("the last of the lot", x.turn(), 3);
        due.is("a safe one", x.take(0), -2);
        due.is("safe ones", x.count(2), 1);
        due.is("turns", x.led(2), 8);
        due.is("from 1", x.take(1), 1);
        due.is("opens the last", x.open(), 3);
        due.is("ended", x.turn(), -2);
        due.is("who has 0", x.of(2, 11), 0);
        due.is("who has 1", x.of(3, 11), 1);
        due.is("who has 2", x.of(0, 11), 2);
        due.is("who has 3", x.of(1, 11), 3);
        due.is("wrapped ones", x.count(1), 0);
        due.is("safe ones", x.count(2), 2);
    }

    private static void safe() {
        OpenOrTake x = Due.party(0, 0, 0);
        x.open();
        x.take(0);
        x.open();
        x.mend(0, 3, 1);
        due.is("taken once, most 1: safe", x.take(0), -2);
        due.is("count of safe ones", x.count(2), 1);
        x.mend(0, 3, 2);
        due.is("most 2: not safe", x.count(2), 0);
        due.is("it may", x.take(0), 1);
        due.is("safe now", x.count(2), 1);
    }

    private static void ways() {
        int[][] worths = {{0, 0, 0, 0}, {0, 0, 0, 0}, {40, 40, 40, 41}, {0, 0, 0, 0}};
        OpenOrTake x = Due.party(0, 0, 0, 0);
        Due.worths(x, worths);
        x.open();
        x.open();
        due.is("a guess of 40 and a half, cut: opens", x.goOn(), 2);
        due.is("its own", x.of(2, 11), 2);

        x = Due.party(0, 0, 0, 0);
        Due.worths(x, worths);
        x.mend(20, 0, 42);
        x.mend(21, 0, 42);
        x.open();
        x.open();
        due.is("of like ones the least number", x.goOn(), 3);
        due.is("its own", x.of(2, 11), 0);

        x = Due.party(0, 0, 0, 0);
        Due.worths(x, worths);
        x.mend(20, 0, 41);
        x.open();
        x.open();
        due.is("more than the cut guess", x.goOn(), 3);
        x.anew();
        x.mend(21, 0, 77);
        due.is("from the beginning", x.goOn(), 5);
        due.is("that with most worth", x.of(2, 11), 1);
        due.is("once more it goes on", x.goOn(), 0);
    }

    private static void likes() {
        OpenOrTake x = Due.party(0, 0, 0, 1, 0);
        Due.worths(x, new int[][] {{0}, {0}, {0}, {20, 30, 9, 9, 10}});
        x.mend(30, 1, 4);
        x.mend(31, 1, 4);
        x.mend(32, 1, 0);
        x.image();
        x.open();
        x.open();
        x.open();
        due.is("3 takes 20 from 0, who opens; 4 opens", x.goOn(), 3);
        due.is("of like ones the least parcel", x.of(3, 11), 0);
        x.back();
        x.mend(31, 1, 3);
        x.goOn();
        due.is("from whom it likes least", x.of(3, 11), 1);
        x.back();
        x.mend(31, 1, 9);
        x.mend(30, 1, 9);
        x.goOn();
        due.is("no more than guess: not taken for all that", x.of(3, 11), 0);
    }

    private static void again() {
        OpenOrTake x = Due.party(0, 0, 0, 0);
        x.swap(1);
        Due.worths(x, new int[][] {{0, 0, 0, 0}, {5, 5, 8, 8}, {0, 0, 0, 0}, {0, 0, 0, 0}});
        x.open();
        x.mend(0, 4, 1);
        due.is("the evening has not ended", x.again(), -5);
        x.open();
        x.open();
        x.open();
        x.mend(0, 4, 0);
        due.is("AGAIN is 0", x.again(), -5);
        x.mend(0, 4, 1);
        due.is("of like ones the least number", x.again(), 2);
        due.is("the first one's", x.of(1, 11), 2);
        due.is("the other one has the old one", x.of(2, 11), 0);
        due.is("that counts as taken", x.of(2, 12), 1);
        due.is("the old one does not", x.of(0, 12), 0);
        due.is("and as a turn", x.led(2), 5);
        due.is("led who", x.led(0), 1);
        due.is("led what", x.led(1), 2);
        due.is("nobody's turn for all that", x.turn(), -2);
        due.is("it was", x.again(), -5);
    }

    private static void againThatChangesNothing() {
        OpenOrTake x = Due.party(0, 0, 0);
        x.mend(0, 4, 1);
        Due.worths(x, new int[][] {{5, 5, 5}});
        for (int i = 0; i < 3; i++) {
            x.open();
        }
        due.is("no more worth", x.again(), 0);
        due.is("no turn", x.led(2), 3);
        due.is("nothing was taken", x.of(1, 12), 0);
        due.is("it was", x.again(), -5);
        x.anew();
        x.mend(0, 3, 1);
        x.mend(1, 0, 9);
        x.mend(2, 0, 7);
        x.open();
        x.open();
        x.take(1);
        x.open();
        due.is("the safe one stays; the next does not", x.again(), 2);
        due.is("safe ones", x.count(2), 2);
        x.anew();
        x.open();
        x.take(0);
        x.open();
        x.take(1);
        x.open();
        due.is("all have one", x.turn(), -2);
        due.is("its own", x.of(0, 11), 2);
        due.is("1 is safe, 0 is not better", x.again(), 2);
    }

    private static void anew() {
        OpenOrTake x = Due.party(0, 0, 0);
        x.swap(2);
        x.open();
        x.take(0);
        due.is("how many", x.anew(), 3);
        due.is("wrapped", x.count(1), 3);
        due.is("a parcel is wrapped", x.of(0, 13), 1);
        due.is("nobody has one", x.of(1, 11), -2);
        due.is("nothing was taken", x.of(0, 12), 0);
        due.is("the lot stays, its first begins", x.turn(), 2);
        due.is("turns so far", x.led(2), 2);
        due.is("who had the latest", x.led(0), 1);
        due.is("no robbing is left over", x.take(0), -2);
        due.is("opens", x.open(), 0);
        due.is("what was taken just now is forgotten", x.take(0), 2);
        x.open();
        x.take(0);
        due.is("1 was robbed", x.turn(), 1);
        x.anew();
        due.is("nobody was robbed any more", x.turn(), 2);
        x.goOn();
        x.mend(0, 4, 1);
        due.is("again", x.again() >= 0 ? 1 : 0, 1);
        x.anew();
        x.goOn();
        due.is("again once more behind anew", x.again() >= 0 ? 1 : 0, 1);
    }

    private static void led() {
        OpenOrTake x = Due.party(0, 0);
        due.is("no turn yet", x.led(0), -5);
        due.is("no turn yet", x.led(1), -5);
        due.is("no turns", x.led(2), 0);
        due.is("led(-1)", x.led(-1), -1);
        due.is("led(3)", x.led(3), -1);
        x.open();
        due.is("who opened", x.led(0), 0);
        due.is("what", x.led(1), 0);
        x.take(0);
        due.is("who took", x.led(0), 1);
        due.is("what", x.led(1), 0);
        x.goOn();
        due.is("who opened", x.led(0), 0);
        due.is("what", x.led(1), 1);
        due.is("turns", x.led(2), 3);
        x.evening(0, 1);
        x.face(0);
        due.is("thinking leads nothing", x.led(2), 3);
    }
}
