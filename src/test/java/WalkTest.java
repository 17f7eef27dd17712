import java.util.ArrayDeque;
import java.util.ArrayList;
import java.util.Collections;
import java.util.Deque;
import java.util.List;
import java.util.Random;

/** Promises 2 to 6, 9 to 16 and 24 to 27 in any order: calls by chance, each answer held against the model's. */
public final class WalkTest {
    private static final Due due = new Due("WalkTest");
    private static final int BAD = -1, NOT = -2, FULL = -3, STATE = -5;
    private static final int CALLS = 500;

    /** What an image keeps. */
    private record Deed(List<Integer> lot, Model.Party party, boolean againWas, int who, int got, int turns) {
    }

    private final Random random;
    private final OpenOrTake x = new OpenOrTake();
    private final Model model = new Model();
    private Model.Party party = new Model.Party(0);
    private boolean againWas = false;
    private int ledWho = -1;
    private int ledGot = -1;
    private int turns = 0;
    private Deed image = null;
    private final List<int[]> done = new ArrayList<>();
    private final Deque<int[]> undone = new ArrayDeque<>();

    private WalkTest(int seed) {
        random = new Random(seed);
    }

    public static void main(String[] args) {
        for (int seed = 0; seed < 400; seed++) {
            WalkTest walk = new WalkTest(seed);
            int haste = 1 + seed % 5;
            for (int call = 0; call < CALLS; call++) {
                walk.step(haste);
            }
        }
        due.end();
    }

    private int upTo(int bound) {
        return random.nextInt(bound + 1);
    }

    /** The hastier, the fewer people come and the more turns are had. */
    private void step(int haste) {
        int sort = upTo(19 + 2 * haste);
        switch (sort) {
            case 0 -> person();
            case 1 -> swap();
            case 2, 3 -> mend();
            case 4 -> due.is("turn", x.turn(), party.who < 0 ? NOT : party.who);
            case 5 -> goOn();
            case 6 -> again();
            case 7 -> anew();
            case 8 -> led();
            case 9 -> image();
            case 10 -> back();
            case 11 -> undo();
            case 12 -> redo();
            case 13 -> count();
            case 14, 15 -> of();
            case 16 -> evening();
            case 17, 18 -> open();
            default -> take();
        }
    }

    private boolean hasBegun() {
        return party.opened > 0;
    }

    private void person() {
        int way = upTo(4) - 1;
        int want = way < 0 || way > 2 ? BAD : hasBegun() ? STATE : model.n == 7 ? FULL : model.n;
        due.is("person", x.person(way), want);
        if (want >= 0) {
            model.way[model.n] = way;
            model.lot.add(model.n);
            model.n++;
            party = model.begun(model.lot);
        }
    }

    private void swap() {
        int i = upTo(7);
        int j = upTo(7);
        boolean are = i != j && i < model.n && j < model.n;
        due.is("swap", x.swap(10 * i + j), !are ? BAD : hasBegun() ? STATE : model.lot.get(j));
        if (are && !hasBegun()) {
            Collections.swap(model.lot, i, j);
            party = model.begun(model.lot);
        }
    }

    /** What stands there; -1: there is no such thing. */
    private int value(int number, int what) {
        int p = number / 10;
        int k = number % 10;
        return switch (what) {
            case 0 -> p < model.n && k < model.n ? model.worth[p][k] : BAD;
            case 1 -> p < model.n && k < model.n && p != k ? model.like[p][k] : BAD;
            case 2 -> number < model.n ? model.way[number] : BAD;
            case 3 -> number == 0 ? model.most : BAD;
            default -> number == 0 ? model.again : BAD;
        };
    }

    private void become(int number, int what, int v) {
        switch (what) {
            case 0 -> model.worth[number / 10][number % 10] = v;
            case 1 -> model.like[number / 10][number % 10] = v;
            case 2 -> model.way[number] = v;
            case 3 -> model.most = v;
            default -> model.again = v;
        }
    }

    private void mend() {
        int what = upTo(4);
        int number = what < 2 ? upTo(69) : what == 2 ? upTo(7) : upTo(6) / 6;
        int[] least = {0, 0, 0, 1, 0};
        int[] most = {99, 9, 2, 3, 1};
        int v = upTo(9) == 0 ? 100 - 101 * upTo(1) : least[what] + upTo(most[what] - least[what]);
        int was = value(number, what);
        boolean may = v >= least[what] && v <= most[what] && was != BAD;
        due.is("mend " + number + " " + what + " " + v, x.mend(number, what, v), may ? was : BAD);
        if (may && v != was) {
            become(number, what, v);
            done.add(new int[] {number, what, was, v});
            undone.clear();
            if (done.size() > 40) {
                done.remove(0);
            }
        }
    }

    private void undo() {
        due.is("undo", x.undo(), done.isEmpty() ? STATE : done.size() - 1);
        if (!done.isEmpty()) {
            int[] change = done.remove(done.size() - 1);
            undone.push(change);
            become(change[0], change[1], change[2]);
        }
    }

    private void redo() {
        due.is("redo", x.redo(), undone.isEmpty() ? STATE : undone.size() - 1);
        if (!undone.isEmpty()) {
            int[] change = undone.pop();
            done.add(change);
            become(change[0], change[1], change[3]);
        }
    }

    private void open() {
        due.is("open", x.open(), party.who < 0 ? STATE : party.opened);
        if (party.who >= 0) {
            ledWho = party.who;
            ledGot = party.opened;
            turns++;
            model.open(party, model.lot);
        }
    }

    private void take() {
        int parcel = upTo(7);
        boolean may = party.who >= 0 && model.may(party, parcel);
        int want = parcel >= model.n ? BAD : party.who < 0 ? STATE : may ? party.has.indexOf(parcel) : NOT;
        due.is("take", x.take(parcel), want);
        if (want >= 0) {
            ledWho = party.who;
            ledGot = parcel;
            turns++;
            model.take(party, parcel);
        }
    }

    private void goOn() {
        int count = model.playOut(party, model.lot);
        due.is("goOn", x.goOn(), count);
        if (count > 0) {
            turns += count;
            ledGot = model.n - 1;
            ledWho = party.has.indexOf(ledGot);
        }
    }

    private void again() {
        boolean may = model.again == 1 && !againWas && hasBegun() && party.opened == model.n;
        if (may) {
            int before = party.turns;
            model.onceMore(party, model.lot);
            againWas = true;
            if (party.turns > before) {
                turns++;
                ledWho = model.lot.get(0);
                ledGot = party.has.get(ledWho);
            }
        }
        due.is("again", x.again(), may ? party.has.get(model.lot.get(0)) : STATE);
    }

    private void anew() {
        due.is("anew", x.anew(), model.n);
        party = model.begun(model.lot);
        againWas = false;
    }

    private void led() {
        int what = upTo(4) - 1;
        int told = what == 0 ? ledWho : what == 1 ? ledGot : turns;
        due.is("led", x.led(what), what < 0 || what > 2 ? BAD : what < 2 && turns == 0 ? STATE : told);
    }

    private void image() {
        due.is("image", x.image(), model.n);
        image = new Deed(List.copyOf(model.lot), party.copy(), againWas, ledWho, ledGot, turns);
    }

    private void back() {
        boolean may = image != null && image.lot().size() == model.n;
        due.is("back", x.back(), may ? model.n : STATE);
        if (may) {
            model.lot = new ArrayList<>(image.lot());
            party = image.party().copy();
            againWas = image.againWas();
            ledWho = image.who();
            ledGot = image.got();
            turns = image.turns();
        }
    }

    private void count() {
        int safe = 0;
        for (int parcel = 0; parcel < model.n; parcel++) {
            safe += party.taken[parcel] >= model.most ? 1 : 0;
        }
        int[] want = {model.n, model.n - party.opened, safe, 0, done.size(), 0, 0};
        int what = upTo(6);
        due.is("count " + what, x.count(what), want[what]);
    }

    private void of() {
        int what = upTo(8);
        int number = upTo(what < 2 ? 69 : 7);
        if (what < 5) {
            due.is("of " + number + " " + what, x.of(number, what), value(number, what));
            return;
        }
        int want = BAD;
        if (number < model.n) {
            int has = party.has.get(number);
            want = switch (what) {
                case 5 -> model.lot.get(number);
                case 6 -> has < 0 ? NOT : has;
                case 7 -> party.taken[number];
                default -> number >= party.opened ? 1 : 0;
            };
        }
        due.is("of " + number + " " + (what + 5), x.of(number, what + 5), want);
    }

    private void evening() {
        Model.Party end = model.evening(model.lot);
        int number = upTo(7);
        boolean is = number < model.n;
        switch (upTo(3)) {
            case 0 -> due.is("evening 0", x.evening(number, 0), is ? end.has.get(number) : BAD);
            case 1 -> due.is("evening 1", x.evening(0, 1), end.turns);
            case 2 -> due.is("evening 2", x.evening(0, 2), model.worths(end));
            default -> due.is("evening 3", x.evening(number, 3), is ? end.taken[number] : BAD);
        }
    }
}
