import java.util.ArrayList;
import java.util.List;
import java.util.Random;

/** Promises 8 to 27 once more: parties of all sorts, each answer held against the model's. */
public final class ModelTest {
    private static final Due due = new Due("ModelTest");
    private static final Random random = new Random(20261119);
    private static final String SIGNS = "wxtlorwxtlor0123456789;?|&<=>+-*/%!-()()";

    private OpenOrTake x = new OpenOrTake();
    private Model model = new Model();

    public static void main(String[] args) {
        for (int i = 0; i < 3000; i++) {
            broken();
        }
        for (int party = 0; party < 1200; party++) {
            new ModelTest().party(party % 8);
        }
        due.end();
    }

    private static int upTo(int bound) {
        return random.nextInt(bound + 1);
    }

    /** Texts with a byte put in, left out or changed. */
    private static void broken() {
        StringBuilder text = new StringBuilder(text());
        for (int times = upTo(2); times > 0 && text.length() > 0; times--) {
            int at = random.nextInt(text.length());
            char sign = SIGNS.charAt(random.nextInt(SIGNS.length()));
            switch (upTo(3)) {
                case 0 -> text.deleteCharAt(at);
                case 1 -> text.insert(at, sign);
                case 2 -> text.setCharAt(at, sign);
                default -> text.setLength(at);
            }
        }
        text.setLength(Math.min(text.length(), 120));
        int fault = Model.fault(text.toString());
        due.is("law of " + text, Due.law(new OpenOrTake(), text.toString()), fault < 0 ? 1 : -100 - fault);
    }

    private static String text() {
        StringBuilder text = new StringBuilder();
        for (int lines = upTo(2); lines >= 0; lines--) {
            if (upTo(2) == 0) {
                text.append(e(0)).append('?');
            }
            text.append(e(0)).append(lines > 0 ? ";" : "");
        }
        return text.length() <= 120 ? text.toString() : "w";
    }

    private static String e(int open) {
        String o = o(open);
        int more = upTo(3);
        String[] signs = {"|", "&", "+", "-", "*", "/", "%", "+", "-", "*"};
        boolean compared = false;
        for (int i = 0; i < more; i++) {
            boolean compares = !compared && upTo(4) == 0;
            compared = compared || compares;
            String[] comparing = {"<", "=", ">"};
            o += (compares ? comparing[upTo(2)] : signs[random.nextInt(signs.length)]) + o(open);
        }
        return o;
    }

    private static String o(int open) {
        int sort = upTo(open < 6 ? 9 : 6);
        if (sort < 5) {
            return "" + "wxtlor".charAt(upTo(5));
        }
        if (sort < 7) {
            return "" + upTo(upTo(1) == 0 ? 9 : 9999);
        }
        return sort == 7 ? "!" + o(open + 1) : sort == 8 ? "-" + o(open + 1) : "(" + e(open + 1) + ")";
    }

    private void party(int n) {
        int ways = upTo(3);
        for (int i = 0; i < n; i++) {
            int way = ways == 3 ? upTo(2) : ways;
            due.is("person", x.person(way), i);
            model.way[i] = way;
            model.lot.add(i);
            model.n++;
        }
        int greatest = upTo(1) == 0 ? 99 : 1 + upTo(8);
        for (int i = 20 + upTo(40); i > 0 && n > 0; i--) {
            mend(greatest);
        }
        int thinks = upTo(1);
        for (int i = 0; i < 2; i++) {
            swap();
            law();
            laws();
            if (i == thinks) {
                inThought();
            } else {
                inDeed();
            }
        }
        undo();
    }

    private void mend(int greatest) {
        int p = random.nextInt(model.n);
        int k = random.nextInt(model.n);
        if (upTo(3) > 0) {
            int v = upTo(greatest);
            due.is("worth", x.mend(10 * p + k, 0, v), model.worth[p][k]);
            model.worth[p][k] = v;
        } else if (p != k) {
            int v = upTo(9);
            due.is("like", x.mend(10 * p + k, 1, v), model.like[p][k]);
            model.like[p][k] = v;
        }
    }

    private void swap() {
        if (model.n > 1) {
            int i = random.nextInt(model.n);
            int j = random.nextInt(model.n);
            if (i != j) {
                java.util.Collections.swap(model.lot, i, j);
                due.is("swap", x.swap(10 * i + j), model.lot.get(i));
            }
        }
    }

    private void law() {
        String text = upTo(2) == 0 ? "o?" + upTo(60) + ";" + text() : text();
        // Short ones, for an object is asked 512 times at most.
        int fault = text.length() > 50 ? 0 : Model.fault(text);
        if (fault < 0) {
            model.law = text;
            due.is("law " + text, Due.law(x, text), 1);
        }
    }

    private void laws() {
        int most = 1 + upTo(2);
        int again = upTo(1);
        due.is("most", x.mend(0, 3, most), model.most);
        due.is("again", x.mend(0, 4, again), model.again);
        model.most = most;
        model.again = again;
    }

    private void inThought() {
        int n = model.n;
        Model.Party end = model.evening(model.lot);
        due.is("turns by " + model.law, x.evening(0, 1), end.turns);
        due.is("worths", x.evening(0, 2), model.worths(end));
        List<Integer> best = model.best();
        due.is("best", x.best(-1), model.worths(best));
        due.is("pairs", x.pairs(), model.pairs());
        int seed = random.nextInt();
        int many = 1 + upTo(29);
        int[] sums = model.numbers(seed, many);
        int greatest = n == 0 ? 0 : java.util.Arrays.stream(sums).max().getAsInt();
        int least = n == 0 ? 0 : java.util.Arrays.stream(sums).min().getAsInt();
        due.is("unlike", x.numbers(seed, many, -1), greatest - least);
        boolean exact = n <= 3 && model.most <= 2;
        Model.Party exactly = exact ? model.exact(model.begun(model.lot)) : null;
        due.is("exact", x.exact(-1), exact ? exactly.turns : -5);
        for (int i = 0; i < n; i++) {
            due.is("evening", x.evening(i, 0), end.has.get(i));
            due.is("taken", x.evening(i, 3), end.taken[i]);
            due.is("best of one", x.best(i), best.get(i));
            due.is("numbers", x.numbers(seed, many, i), sums[i]);
            due.is("exact of one", x.exact(i), exact ? exactly.has.get(i) : -5);
        }
        if (n > 0) {
            int parcel = random.nextInt(n);
            due.is("face", x.face(parcel), model.face(parcel));
        }
        told(end);
    }

    private void told(Model.Party end) {
        List<Integer> told = new ArrayList<>();
        for (int i = 0; i < model.n && upTo(6) > 0; i++) {
            told.add(upTo(5) > 0 ? end.has.get(i) : upTo(6));
        }
        x.row(0, 0, told.size());
        for (int i = 0; i < told.size(); i++) {
            x.put(0, i, told.get(i));
        }
        due.is("judge", x.judge(0), model.judge(end, told));
        if (model.n < 6) {
            due.is("lots by " + model.law, x.lots(0), model.lots(told));
        }
    }

    /** Turns by chance, then by ways, with an image laid back on the way. */
    private void inDeed() {
        int n = model.n;
        int before = x.led(2);
        Model.Party p = model.begun(model.lot);
        due.is("anew", x.anew(), n);
        for (int i = upTo(20); i > 0 && p.who >= 0; i--) {
            due.is("turn", x.turn(), p.who);
            int parcel = upTo(n);
            if (parcel == n) {
                due.is("open", x.open(), p.opened);
                model.open(p, model.lot);
            } else {
                boolean may = model.may(p, parcel);
                due.is("take", x.take(parcel), may ? p.has.indexOf(parcel) : -2);
                if (may) {
                    model.take(p, parcel);
                }
            }
        }
        due.is("turns so far", x.led(2), before + p.turns);
        due.is("image", x.image(), n);
        Model.Party other = p.copy();
        due.is("goOn", x.goOn(), model.playOut(other, model.lot));
        held(other);
        due.is("back", x.back(), n);
        held(p);
        due.is("goOn", x.goOn(), model.playOut(p, model.lot));
        due.is("turns so far", x.led(2), before + p.turns);
        boolean may = model.again == 1 && n > 0;
        if (may) {
            model.onceMore(p, model.lot);
        }
        due.is("again", x.again(), may ? p.has.get(model.lot.get(0)) : -5);
        due.is("turns so far", x.led(2), before + p.turns);
        held(p);
        x.anew();
    }

    private void held(Model.Party p) {
        int safe = 0;
        for (int i = 0; i < model.n; i++) {
            int has = p.has.get(i);
            due.is("has", x.of(i, 11), has < 0 ? -2 : has);
            due.is("taken", x.of(i, 12), p.taken[i]);
            due.is("wrapped", x.of(i, 13), i >= p.opened ? 1 : 0);
            due.is("place", x.of(i, 10), model.lot.get(i));
            safe += p.taken[i] >= model.most ? 1 : 0;
        }
        due.is("turn", x.turn(), p.who < 0 ? -2 : p.who);
        due.is("wrapped ones", x.count(1), model.n - p.opened);
        due.is("safe ones", x.count(2), safe);
    }

    private void undo() {
        int[] kept = new int[model.n * model.n];
        for (int i = 0; i < kept.length; i++) {
            kept[i] = x.of(10 * (i / model.n) + i % model.n, 0);
        }
        int times = upTo(5);
        int undone = 0;
        for (int i = 0; i < times; i++) {
            int left = x.count(4);
            due.is("undo", x.undo(), left == 0 ? -5 : left - 1);
            undone += left == 0 ? 0 : 1;
        }
        for (int i = undone; i > 0; i--) {
            due.is("redo", x.redo(), i - 1);
        }
        for (int i = 0; i < kept.length; i++) {
            due.is("worth", x.of(10 * (i / model.n) + i % model.n, 0), kept[i]);
        }
    }
}
