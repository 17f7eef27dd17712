import java.util.ArrayDeque;
import java.util.ArrayList;
import java.util.Deque;
import java.util.List;
import java.util.Random;

/** Promises 24 to 27: an image, and changes undone and done again. */
public final class ChangesTest {
    private static final Due due = new Due("ChangesTest");

    public static void main(String[] args) {
        image();
        imageAndPeople();
        undo();
        redoIsLost();
        fortyAtMost();
        fortyUnlikeOnes();
        allSorts();
        toTheSame();
        toTheSameKeepsRedo();
        toTheSameForgetsNone();
        byChance();
        due.end();
    }

    private static void image() {
        OpenOrTake x = Due.party(0, 0, 0);
        due.is("there is none", x.back(), -5);
        x.swap(2);
        x.open();
        x.take(0);
        due.is("kept", x.image(), 3);
        x.goOn();
        x.mend(0, 4, 1);
        x.again();
        x.anew();
        x.swap(1);
        due.is("laid back", x.back(), 3);
        due.is("the lot, place 0", x.of(0, 10), 2);
        due.is("the lot, place 1", x.of(1, 10), 1);
        due.is("whose turn it is", x.turn(), 2);
        due.is("what was taken just now", x.take(0), -2);
        due.is("who has what", x.of(1, 11), 0);
        due.is("who has nothing", x.of(2, 11), -2);
        due.is("how often", x.of(0, 12), 1);
        due.is("wrapped", x.count(1), 2);
        due.is("led who", x.led(0), 1);
        due.is("led what", x.led(1), 0);
        due.is("led turns", x.led(2), 2);
        due.is("laws are not in it", x.of(0, 4), 1);
        x.goOn();
        due.is("again was not", x.again() >= 0 ? 1 : 0, 1);
        due.is("kept behind it", x.image(), 3);
        x.anew();
        x.back();
        due.is("again was", x.again(), -5);
        x.anew();
        due.is("laid back once more", x.back(), 3);
        due.is("it has ended", x.turn(), -2);
    }

    private static void imageAndPeople() {
        OpenOrTake x = new OpenOrTake();
        due.is("none of nobody", x.back(), -5);
        due.is("of nobody", x.image(), 0);
        due.is("of nobody", x.back(), 0);
        x.person(0);
        due.is("people came since", x.back(), -5);
        due.is("of one", x.image(), 1);
        x.person(9);
        due.is("nobody came", x.back(), 1);
        x.row(0, 0, 2);
        x.people(0, 0, 2);
        due.is("people came since", x.back(), -5);
        due.is("they stay", x.count(0), 3);
    }

    private static void undo() {
        OpenOrTake x = Due.party(0, 0);
        due.is("none", x.undo(), -5);
        due.is("none", x.redo(), -5);
        x.mend(1, 0, 10);
        x.mend(1, 0, 20);
        x.mend(1, 0, 200);
        due.is("refused ones do not count", x.count(4), 2);
        due.is("one may still be", x.undo(), 1);
        due.is("as it was", x.of(1, 0), 10);
        due.is("none may still be", x.undo(), 0);
        due.is("as it was", x.of(1, 0), 0);
        due.is("none", x.undo(), -5);
        due.is("done again, one more", x.redo(), 1);
        due.is("as it became", x.of(1, 0), 10);
        due.is("done again, none more", x.redo(), 0);
        due.is("as it became", x.of(1, 0), 20);
        due.is("none", x.redo(), -5);
        due.is("two may be undone", x.count(4), 2);
    }

    private static void redoIsLost() {
        OpenOrTake x = Due.party(0, 0);
        x.mend(0, 0, 1);
        x.mend(0, 0, 2);
        x.mend(0, 0, 3);
        x.undo();
        x.undo();
        x.mend(11, 0, -1);
        due.is("a refused one loses nothing", x.redo(), 1);
        x.undo();
        x.mend(11, 0, 50);
        due.is("another came behind", x.redo(), -5);
        due.is("two may be undone", x.undo(), 1);
        due.is("the other one", x.of(11, 0), 0);
        due.is("and the first", x.undo(), 0);
        due.is("as at first", x.of(0, 0), 0);
    }

    private static void fortyAtMost() {
        OpenOrTake x = Due.party(0, 0);
        for (int i = 1; i <= 45; i++) {
            x.mend(0, 0, i);
            due.is("changes", x.count(4), Math.min(i, 40));
        }
        for (int i = 1; i <= 40; i++) {
            due.is("undone " + i, x.undo(), 40 - i);
            due.is("worth", x.of(0, 0), 45 - i);
        }
        due.is("no more", x.undo(), -5);
        for (int i = 1; i <= 40; i++) {
            due.is("done again " + i, x.redo(), 40 - i);
            due.is("worth", x.of(0, 0), 5 + i);
        }
        due.is("no more", x.redo(), -5);
    }

    /** Unlike ones, so that all that is kept of a change moves along. */
    private static void fortyUnlikeOnes() {
        OpenOrTake x = Due.party(0, 0, 0, 0, 0, 0, 0);
        for (int i = 0; i < 49; i++) {
            x.mend(10 * (i / 7) + i % 7, 0, i + 1);
        }
        x.mend(0, 3, 2);
        for (int i = 0; i < 40; i++) {
            x.undo();
        }
        due.is("most", x.of(0, 3), 3);
        for (int i = 0; i < 49; i++) {
            due.is("worth " + i, x.of(10 * (i / 7) + i % 7, 0), i < 10 ? i + 1 : 0);
        }
        for (int i = 0; i < 40; i++) {
            x.redo();
        }
        due.is("most", x.of(0, 3), 2);
        for (int i = 0; i < 49; i++) {
            due.is("worth " + i, x.of(10 * (i / 7) + i % 7, 0), i + 1);
        }
    }

    private static void allSorts() {
        OpenOrTake x = Due.party(0, 0);
        int[][] changes = {{10, 0, 7}, {10, 1, 7}, {1, 2, 2}, {0, 3, 1}, {0, 4, 1}};
        int[] first = new int[changes.length];
        for (int i = 0; i < changes.length; i++) {
            first[i] = x.mend(changes[i][0], changes[i][1], changes[i][2]);
        }
        x.open();
        for (int i = changes.length - 1; i >= 0; i--) {
            due.is("undone " + i, x.undo(), i);
            due.is("as at first", x.of(changes[i][0], changes[i][1]), first[i]);
        }
        for (int i = 0; i < changes.length; i++) {
            due.is("done again " + i, x.redo(), changes.length - 1 - i);
            due.is("as it became", x.of(changes[i][0], changes[i][1]), changes[i][2]);
        }
        due.is("turns are no changes", x.of(0, 11), 0);
    }

    /** What becomes as it was already is no change. */
    private static void toTheSame() {
        OpenOrTake told = Due.party(0, 1);
        due.is("what it was", told.mend(1, 2, 1), 1);
        due.is("no WAY has changed", told.undo(), -5);
        int[][] changes = {{10, 0, 0, 7}, {10, 1, 5, 6}, {1, 2, 0, 2}, {0, 3, 3, 1}, {0, 4, 0, 1}};
        for (int[] change : changes) {
            OpenOrTake x = Due.party(0, 0);
            due.is("as at first", x.mend(change[0], change[1], change[2]), change[2]);
            due.is("none", x.count(4), 0);
            due.is("none", x.undo(), -5);
            due.is("none", x.redo(), -5);
            x.mend(change[0], change[1], change[3]);
            due.is("the same once more", x.mend(change[0], change[1], change[3]), change[3]);
            due.is("one", x.count(4), 1);
            due.is("one", x.undo(), 0);
            due.is("as it was", x.of(change[0], change[1]), change[2]);
            due.is("none", x.undo(), -5);
        }
    }

    private static void toTheSameKeepsRedo() {
        OpenOrTake x = Due.party(0, 0);
        x.mend(0, 0, 1);
        x.mend(1, 0, 2);
        x.undo();
        due.is("what it was undone to", x.mend(1, 0, 0), 0);
        due.is("another one's own", x.mend(0, 0, 1), 1);
        due.is("one may be undone", x.count(4), 1);
        due.is("no other came behind", x.redo(), 0);
        due.is("as it became", x.of(1, 0), 2);
        x.undo();
        x.undo();
        due.is("none is left to undo", x.mend(0, 3, 3), 3);
        due.is("done again", x.redo(), 1);
        due.is("as it became", x.of(0, 0), 1);
        x.mend(0, 0, 9);
        due.is("another came behind", x.redo(), -5);
    }

    private static void toTheSameForgetsNone() {
        OpenOrTake x = Due.party(0, 0);
        for (int i = 1; i <= 40; i++) {
            x.mend(0, 0, i);
        }
        x.mend(0, 0, 40);
        x.mend(0, 4, 0);
        due.is("changes", x.count(4), 40);
        for (int i = 39; i >= 0; i--) {
            due.is("undone", x.undo(), i);
            due.is("worth", x.of(0, 0), i);
        }
        due.is("none", x.undo(), -5);
    }

    /** Mendings, undone and done again, beside lists that tell the same in other words. */
    private static void byChance() {
        Random random = new Random(5);
        for (int run = 0; run < 120; run++) {
            OpenOrTake x = Due.party(0, 1, 2);
            int few = 1 + random.nextInt(4);
            List<int[]> done = new ArrayList<>();
            Deque<int[]> undone = new ArrayDeque<>();
            for (int time = 0; time < 120; time++) {
                int sort = random.nextInt(run % 3 == 0 ? 20 : 5);
                if (sort == 0) {
                    undoBeside(x, done, undone);
                } else if (sort == 1) {
                    redoBeside(x, done, undone);
                } else {
                    mendBeside(x, random, few, done, undone);
                }
                due.is("may be undone", x.count(4), done.size());
            }
        }
    }

    private static void mendBeside(OpenOrTake x, Random random, int few, List<int[]> done, Deque<int[]> undone) {
        int what = random.nextInt(5);
        int number = what == 0 ? 10 * random.nextInt(3) + random.nextInt(3)
                : what == 1 ? 12 : what == 2 ? random.nextInt(3) : 0;
        int v = what == 3 ? 1 + random.nextInt(3) : random.nextInt(what == 4 ? 2 : what == 2 ? 3 : 1 + few);
        int was = x.of(number, what);
        due.is("what it was", x.mend(number, what, v), was);
        due.is("what it is", x.of(number, what), v);
        if (v != was) {
            done.add(new int[] {number, what, was, v});
            undone.clear();
            if (done.size() > 40) {
                done.remove(0);
            }
        }
    }

    private static void undoBeside(OpenOrTake x, List<int[]> done, Deque<int[]> undone) {
        due.is("undo", x.undo(), done.isEmpty() ? -5 : done.size() - 1);
        if (!done.isEmpty()) {
            int[] change = done.remove(done.size() - 1);
            undone.push(change);
            due.is("as it was", x.of(change[0], change[1]), change[2]);
        }
    }

    private static void redoBeside(OpenOrTake x, List<int[]> done, Deque<int[]> undone) {
        due.is("redo", x.redo(), undone.isEmpty() ? -5 : undone.size() - 1);
        if (!undone.isEmpty()) {
            int[] change = undone.pop();
            done.add(change);
            due.is("as it became", x.of(change[0], change[1]), change[3]);
        }
    }
}
