import java.util.function.Supplier;
import java.util.function.ToLongFunction;

/** What stands at the edges of some promises, sentence by sentence. */
abstract class Edges {
    static final int BAD = -1, NOT = -2, FULL = -3, STATE = -5;
    static final int NOTHING_THERE = -11, OTHER_KIND = -12, NO_PLACE = -13, SIZE_BELOW_0 = -14;
    static final int MIN = Integer.MIN_VALUE, MAX = Integer.MAX_VALUE;

    private final Sentences sentences;

    Edges(Sentences sentences) {
        this.sentences = sentences;
    }

    abstract void hold();

    final void of(int promise, String words) {
        sentences.of(promise, words);
    }

    final void is(String what, long got, long want) {
        sentences.is(what, got, want);
    }

    /** The call is answered so in that state, and all is as if it had not been called. */
    final void refused(String what, long want, Supplier<OpenOrTake> state, ToLongFunction<OpenOrTake> call) {
        for (int part = 0; part < Told.PARTS; part++) {
            OpenOrTake x = state.get();
            is(what, call.applyAsLong(x), want);
            is(what + " changes what part " + part + " of Told tells",
                    Told.part(x, part).equals(Told.part(state.get(), part)) ? 0 : 1, 0);
        }
    }

    /** An object with something in all its corners; nothing in it stands as at first. */
    static OpenOrTake lived() {
        OpenOrTake x = Due.party(0, 1, 2, 0);
        Due.worths(x, new int[][] {{10, 50, 30, 5}, {40, 20, 60, 10}, {70, 30, 20, 90}, {80, 10, 40, 30}});
        x.swap(12);
        x.mend(20, 1, 2);
        x.mend(0, 3, 2);
        x.mend(0, 4, 1);
        x.mend(3, 2, 1);
        x.mend(31, 0, 77);
        x.undo();
        x.undo();
        Due.law(x, "o?30;w+x");
        for (char letter : "1-o+w".toCharArray()) {
            x.feed(letter);
        }
        x.body(5);
        x.body(1);
        x.act(0, 3, 4);
        x.keep(0, 0);
        Due.row(x, 1, 0, 1, 2, 0, -1);
        Due.row(x, 2, 2, 70000, -5);
        Due.row(x, 3, 4, 1, 0, 1);
        x.open();
        x.take(0);
        x.image();
        x.open();
        return x;
    }

    /** As many people of WAY 0 to whom nothing is worth anything: each one OPENS. */
    static OpenOrTake people(int n) {
        OpenOrTake x = new OpenOrTake();
        for (int i = 0; i < n; i++) {
            x.person(0);
        }
        return x;
    }

    /** As many people, of whom so many have opened. */
    static OpenOrTake opened(int n, int times) {
        OpenOrTake x = people(n);
        for (int i = 0; i < times; i++) {
            x.open();
        }
        return x;
    }
}
