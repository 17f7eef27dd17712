import java.util.ArrayDeque;
import java.util.ArrayList;
import java.util.Collections;
import java.util.Deque;
import java.util.List;
import java.util.Random;

/** Promises 1 to 37 in any order: all calls by chance, each answer held against the model's and the host's. */
public final class WalkTest {
    private static final Due due = new Due("WalkTest");
    private static final int BAD = -1, NOT = -2, FULL = -3, STATE = -5;
    /** An object is used for 512 calls; one step makes two at most. */
    private static final int CALLS = 511;
    private static final String[] TEXTS = {"w", "w*2-x+l-t*9", "o?r*9;w-t", "!o&t<2|x>w", "o?w%7;-l*(x-w)/3",
        "l-l/0?1;w", "o?x=l;t", "9999*9999*w>0?r;o", "((((((w))))))", "!-!-!-w", "------!w", "w?(x)&(((((((t)))))))",
        "w+", "12345", "w?x?t", ""};

    /** What an image keeps. */
    private record Deed(List<Integer> lot, Model.Party party, boolean againWas, int who, int got, int turns) {
    }

    private final Random random;
    private final OpenOrTake x = new OpenOrTake();
    private final Model model = new Model();
    private Model.Party party = new Model.Party(0);
    private boolean againWas = false;
    private int ledWho = -1;
    private int ledGot = -1;
    private int turns = 0;
    private Deed image = null;
    private int heard = 0;
    private final List<int[]> done = new ArrayList<>();
    private final Deque<int[]> undone = new ArrayDeque<>();
    private final Host host = new Host();
    private String tape = "";
    /** What is fed byte by byte, if nothing else comes between. */
    private String text = "";

    private WalkTest(int seed) {
        random = new Random(seed);
    }

    public static void main(String[] args) {
        for (int seed = 0; seed < 400; seed++) {
            WalkTest walk = new WalkTest(seed);
            int haste = 1 + seed % 5;
            walk.begin(seed % 9, 10 * (seed % 7));
            for (int step = 0; step < CALLS && walk.heard < CALLS; step++) {
                switch (walk.upTo(seed % 3)) {
                    case 0 -> walk.step(haste);
                    case 1 -> walk.shelfStep();
                    default -> walk.thoughtStep();
                }
            }
        }
        due.end();
    }

    private int upTo(int bound) {
        return random.nextInt(bound + 1);
    }

    /** Each answer is one call's. */
    private void is(String what, long got, long want) {
        heard++;
        due.is(what, got, want);
    }

    /** People who come and what they are like, so that there is something to think of. */
    private void begin(int comers, int mendings) {
        for (int i = 0; i < comers; i++) {
            person();
        }
        for (int i = 0; i < mendings; i++) {
            mend();
        }
    }

    /** The hastier, the fewer people come and the more turns are had. */
    private void step(int haste) {
        int sort = upTo(19 + 2 * haste);
        switch (sort) {
            case 0 -> person();
            case 1 -> swap();
            case 2, 3 -> mend();
            case 4 -> is("turn", x.turn(), party.who < 0 ? NOT : party.who);
            case 5 -> goOn();
            case 6 -> again();
            case 7 -> anew();
            case 8 -> led();
            case 9 -> image();
            case 10 -> back();
            case 11 -> undo();
            case 12 -> redo();
            case 13 -> count();
            case 14, 15 -> of();
            case 16 -> evening();
            case 17, 18 -> open();
            default -> take();
        }
    }

    private boolean hasBegun() {
        return party.opened > 0;
    }

    private void person() {
        int way = upTo(4) - 1;
        int want = way < 0 || way > 2 ? BAD : hasBegun() ? STATE : model.n == 7 ? FULL : model.n;
        is("person", x.person(way), want);
        if (want >= 0) {
            model.way[model.n] = way;
            model.lot.add(model.n);
            model.n++;
            party = model.begun(model.lot);
        }
    }

    private void swap() {
        int i = upTo(7);
        int j = upTo(7);
        boolean are = i != j && i < model.n && j < model.n;
        is("swap", x.swap(10 * i + j), !are ? BAD : hasBegun() ? STATE : model.lot.get(j));
        if (are && !hasBegun()) {
            Collections.swap(model.lot, i, j);
            party = model.begun(model.lot);
        }
    }

    /** What stands there; -1: there is no such thing. */
    private int value(int number, int what) {
        int p = number / 10;
        int k = number % 10;
        return switch (what) {
            case 0 -> number >= 0 && p < model.n && k < model.n ? model.worth[p][k] : BAD;
            case 1 -> number >= 0 && p < model.n && k < model.n && p != k ? model.like[p][k] : BAD;
            case 2 -> number < model.n ? model.way[number] : BAD;
            case 3 -> number == 0 ? model.most : BAD;
            default -> number == 0 ? model.again : BAD;
        };
    }

    private void become(int number, int what, int v) {
        switch (what) {
            case 0 -> model.worth[number / 10][number % 10] = v;
            case 1 -> model.like[number / 10][number % 10] = v;
            case 2 -> model.way[number] = v;
            case 3 -> model.most = v;
            default -> model.again = v;
        }
    }

    /** Mostly one that is there. */
    private int pair() {
        return upTo(9) == 0 || model.n == 0 ? upTo(80) - 5 : 10 * upTo(model.n - 1) + upTo(model.n - 1);
    }

    private void mend() {
        int what = upTo(upTo(1) == 0 ? 1 : 4);
        int number = what < 2 ? pair() : what == 2 ? upTo(7) : upTo(6) / 6;
        int[] least = {0, 0, 0, 1, 0};
        int[] most = {99, 9, 2, 3, 1};
        int v = upTo(9) == 0 ? 100 - 101 * upTo(1) : least[what] + upTo(most[what] - least[what]);
        int was = value(number, what);
        boolean may = v >= least[what] && v <= most[what] && was != BAD;
        is("mend " + number + " " + what + " " + v, x.mend(number, what, v), may ? was : BAD);
        if (may && v != was) {
            become(number, what, v);
            done.add(new int[] {number, what, was, v});
            undone.clear();
            if (done.size() > 40) {
                done.remove(0);
            }
        }
    }

    private void undo() {
        is("undo", x.undo(), done.isEmpty() ? STATE : done.size() - 1);
        if (!done.isEmpty()) {
            int[] change = done.remove(done.size() - 1);
            undone.push(change);
            become(change[0], change[1], change[2]);
        }
    }

    private void redo() {
        is("redo", x.redo(), undone.isEmpty() ? STATE : undone.size() - 1);
        if (!undone.isEmpty()) {
            int[] change = undone.pop();
            done.add(change);
            become(change[0], change[1], change[3]);
        }
    }

    private void open() {
        is("open", x.open(), party.who < 0 ? STATE : party.opened);
        if (party.who >= 0) {
            ledWho = party.who;
            ledGot = party.opened;
            turns++;
            model.open(party, model.lot);
        }
    }

    private void take() {
        int parcel = upTo(7);
        boolean may = party.who >= 0 && model.may(party, parcel);
        int want = parcel >= model.n ? BAD : party.who < 0 ? STATE : may ? party.has.indexOf(parcel) : NOT;
        is("take", x.take(parcel), want);
        if (want >= 0) {
            ledWho = party.who;
            ledGot = parcel;
            turns++;
            model.take(party, parcel);
        }
    }

    private void goOn() {
        int count = model.playOut(party, model.lot);
        is("goOn", x.goOn(), count);
        if (count > 0) {
            turns += count;
            ledGot = model.n - 1;
            ledWho = party.has.indexOf(ledGot);
        }
    }

    private void again() {
        boolean may = model.again == 1 && !againWas && hasBegun() && party.opened == model.n;
        if (may) {
            int before = party.turns;
            model.onceMore(party, model.lot);
            againWas = true;
            if (party.turns > before) {
                turns++;
                ledWho = model.lot.get(0);
                ledGot = party.has.get(ledWho);
            }
        }
        is("again", x.again(), may ? party.has.get(model.lot.get(0)) : STATE);
    }

    private void anew() {
        is("anew", x.anew(), model.n);
        party = model.begun(model.lot);
        againWas = false;
    }

    private void led() {
        int what = upTo(4) - 1;
        int told = what == 0 ? ledWho : what == 1 ? ledGot : turns;
        is("led", x.led(what), what < 0 || what > 2 ? BAD : what < 2 && turns == 0 ? STATE : told);
    }

    private void image() {
        is("image", x.image(), model.n);
        image = new Deed(List.copyOf(model.lot), party.copy(), againWas, ledWho, ledGot, turns);
    }

    private void back() {
        boolean may = image != null && image.lot().size() == model.n;
        is("back", x.back(), may ? model.n : STATE);
        if (may) {
            model.lot = new ArrayList<>(image.lot());
            party = image.party().copy();
            againWas = image.againWas();
            ledWho = image.who();
            ledGot = image.got();
            turns = image.turns();
        }
    }

    private void count() {
        int safe = 0;
        for (int parcel = 0; parcel < model.n; parcel++) {
            safe += party.taken[parcel] >= model.most ? 1 : 0;
        }
        int[] want = {model.n, model.n - party.opened, safe, tape.length(), done.size(), host.bodies(), host.ran()};
        int what = upTo(6);
        is("count " + what, x.count(what), want[what]);
    }

    private void of() {
        int what = upTo(8);
        int number = what < 2 ? pair() : upTo(7);
        if (what < 5) {
            is("of " + number + " " + what, x.of(number, what), value(number, what));
            return;
        }
        int want = BAD;
        if (number < model.n) {
            int has = party.has.get(number);
            want = switch (what) {
                case 5 -> model.lot.get(number);
                case 6 -> has < 0 ? NOT : has;
                case 7 -> party.taken[number];
                default -> number >= party.opened ? 1 : 0;
            };
        }
        is("of " + number + " " + (what + 5), x.of(number, what + 5), want);
    }

    private void evening() {
        Model.Party end = model.evening(model.lot);
        int number = upTo(7);
        boolean is = number < model.n;
        switch (upTo(3)) {
            case 0 -> is("evening 0", x.evening(number, 0), is ? end.has.get(number) : BAD);
            case 1 -> is("evening 1", x.evening(0, 1), end.turns);
            case 2 -> is("evening 2", x.evening(0, 2), model.worths(end));
            default -> is("evening 3", x.evening(number, 3), is ? end.taken[number] : BAD);
        }
    }

    // ---- shelves and acts

    private int shelf() {
        return upTo(19) == 0 ? 7 * upTo(1) - 1 : upTo(5);
    }

    private long bits() {
        return random.nextLong() >> random.nextInt(64);
    }

    private void shelfStep() {
        int a = upTo(9) - 1;
        int b = upTo(upTo(3) == 0 ? 61 : 7) - 1;
        int shelf = shelf();
        switch (upTo(11)) {
            case 0 -> is("body " + a, x.body(a), host.body(a));
            case 1, 2 -> {
                int act = upTo(5) - 1;
                int v = (int) bits();
                is("act " + a + " " + act + " " + v, x.act(a, act, v), host.act(a, act, v));
            }
            case 3 -> is("trace " + a, x.trace(a), host.trace(a));
            case 4 -> is("keep", x.keep(shelf, a), host.keep(shelf, a));
            case 5 -> {
                int sort = upTo(2) == 0 ? upTo(6) - 1 : 0;
                int n = upTo(9) == 0 ? 62 - 2 * upTo(32) : b;
                is("row " + sort + " " + n, x.row(shelf, sort, n), host.row(shelf, sort, n));
            }
            case 6, 7 -> {
                long v = upTo(1) == 0 ? upTo(3) : bits();
                is("put " + b + " " + v, x.put(shelf, b, v), host.put(shelf, b, v));
                is("element " + b, x.element(shelf, b), host.element(shelf, b));
            }
            case 8 -> is("element " + b, x.element(shelf, b), host.element(shelf, b));
            case 9 -> is("taken " + a, x.taken(shelf, a), host.taken(shelf, a));
            case 10 -> shift();
            default -> people();
        }
    }

    private void shift() {
        int shelf = shelf();
        int other = shelf();
        int i = upTo(8) - 1;
        int j = upTo(8) - 1;
        int n = upTo(8) - 1;
        String what = "shift " + shelf + " " + i + " " + other + " " + j + " " + n;
        is(what, x.shift(shelf, i, other, j, n), host.shift(shelf, i, other, j, n));
    }

    private void people() {
        int shelf = shelf();
        int i = upTo(5) - 1;
        int n = upTo(8);
        int refusal = host.refusalOfBytes(shelf);
        List<Integer> came = new ArrayList<>();
        if (refusal == 0 && i >= 0) {
            List<Integer> bytes = host.bytes(shelf);
            while (came.size() < n && i + came.size() < bytes.size() && model.n + came.size() < 7
                    && bytes.get(i + came.size()) >= 0 && bytes.get(i + came.size()) <= 2) {
                came.add(bytes.get(i + came.size()));
            }
        }
        int want = refusal == BAD || n < 1 || n > 7 ? BAD : refusal == -12 ? refusal : hasBegun() ? STATE : came.size();
        is("people " + i + " " + n, x.people(shelf, i, n), want);
        for (int k = 0; k < want; k++) {
            model.way[model.n] = came.get(k);
            model.lot.add(model.n);
            model.n++;
        }
        if (want > 0) {
            party = model.begun(model.lot);
        }
    }

    // ---- the law, and in thought

    private void thoughtStep() {
        switch (upTo(14)) {
            case 0, 1, 2, 3, 4 -> feed();
            case 5 -> law();
            case 6 -> exact();
            case 7 -> best();
            case 8 -> is("pairs", x.pairs(), model.pairs());
            case 9 -> face();
            case 10, 11 -> numbers();
            case 12, 13 -> judge();
            default -> lots();
        }
    }

    private void feed() {
        if (text.isEmpty()) {
            text = TEXTS[random.nextInt(TEXTS.length)];
        }
        int letter = text.isEmpty() || upTo(19) == 0 ? upTo(257) - 1 : text.charAt(0);
        text = text.isEmpty() ? "" : text.substring(1);
        int want = letter < 0 || letter > 255 ? BAD : tape.length() == 120 ? FULL : tape.length() + 1;
        is("feed " + letter, x.feed(letter), want);
        if (want > 0) {
            tape += (char) letter;
        }
        if (text.isEmpty()) {
            law();
        }
    }

    private void law() {
        int fault = Model.fault(tape);
        is("law " + tape, x.law(), fault < 0 ? 1 : -100 - fault);
        if (fault < 0) {
            model.law = tape;
        }
        tape = "";
    }

    private void exact() {
        int person = upTo(5) - 2;
        boolean is = person >= -1 && person < model.n;
        if (!is || model.n > 3 || model.most > 2) {
            is("exact " + person, x.exact(person), is ? STATE : BAD);
            return;
        }
        Model.Party end = model.exact(model.begun(model.lot));
        is("exact " + person, x.exact(person), person < 0 ? end.turns : end.has.get(person));
    }

    private void best() {
        int person = upTo(8) - 2;
        boolean is = person >= -1 && person < model.n;
        if (!is || model.n <= 5) {
            List<Integer> best = is ? model.best() : List.of();
            is("best " + person, x.best(person), !is ? BAD : person < 0 ? model.worths(best) : best.get(person));
        }
    }

    private void face() {
        int parcel = upTo(8) - 1;
        is("face " + parcel, x.face(parcel), parcel >= 0 && parcel < model.n ? model.face(parcel) : BAD);
    }

    private void numbers() {
        int seed = (int) bits();
        int n = upTo(9) == 0 ? 31 * upTo(1) : 1 + upTo(6);
        int place = upTo(8) - 2;
        if (n < 1 || n > 30 || place < -1 || place >= model.n) {
            is("numbers " + n + " " + place, x.numbers(seed, n, place), BAD);
            return;
        }
        int[] sums = model.numbers(seed, n);
        java.util.Arrays.sort(sums);
        int unlike = sums.length == 0 ? 0 : sums[sums.length - 1] - sums[0];
        int want = place < 0 ? unlike : model.numbers(seed, n)[place];
        is("numbers " + seed + " " + n + " " + place, x.numbers(seed, n, place), want);
    }

    private void judge() {
        int shelf = shelf();
        int refusal = host.refusalOfBytes(shelf);
        int want = refusal != 0 ? refusal : model.judge(model.evening(model.lot), host.bytes(shelf));
        is("judge", x.judge(shelf), want);
    }

    /** By few people alone: the model goes through all lots one by one. */
    private void lots() {
        int shelf = shelf();
        int refusal = host.refusalOfBytes(shelf);
        if (refusal != 0 || model.n <= 5) {
            is("lots", x.lots(shelf), refusal != 0 ? refusal : model.lots(host.bytes(shelf)));
        }
    }
}
