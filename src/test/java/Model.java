import java.util.ArrayList;
import java.util.List;
import java.util.function.IntUnaryOperator;

/**
 * The document once more, as plainly as can be and by other means than the class: evenings over lists,
 * texts split at their signs, all lots and partings one by one. What many calls answer is held against it.
 */
final class Model {
    int n = 0;
    final int[][] worth = new int[7][7];
    final int[][] like = new int[7][7];
    final int[] way = new int[7];
    int most = 3;
    int again = 0;
    List<Integer> lot = new ArrayList<>();
    String law = "w";

    Model() {
        for (int[] row : like) {
            java.util.Arrays.fill(row, 5);
        }
    }

    // ---- texts

    /** The FAULT, or -1: what is ahead of it can be made a text by some operand and brackets. */
    static int fault(String text) {
        if (isText(text)) {
            return -1;
        }
        for (int i = 0; i < text.length(); i++) {
            if (!canGoOn(text.substring(0, i + 1))) {
                return i;
            }
        }
        return text.length();
    }

    private static boolean canGoOn(String start) {
        for (int brackets = 0; brackets <= 6; brackets++) {
            String end = ")".repeat(brackets);
            if (isText(start + end) || isText(start + "w" + end)) {
                return true;
            }
        }
        return false;
    }

    private static boolean isText(String text) {
        for (String line : split(text, ";")) {
            List<String> parts = split(line, "?");
            if (parts.size() > 2) {
                return false;
            }
            for (String part : parts) {
                if (!isE(part, 6)) {
                    return false;
                }
            }
        }
        return true;
    }

    /** Parts between signs that stand outside of brackets; a - or + ahead of an operand parts nothing. */
    private static List<String> split(String s, String signs) {
        List<String> parts = new ArrayList<>();
        int depth = 0;
        int from = 0;
        for (int i = 0; i < s.length(); i++) {
            char c = s.charAt(i);
            depth += c == '(' ? 1 : c == ')' ? -1 : 0;
            boolean behindOperand = i > 0 && (Character.isLetterOrDigit(s.charAt(i - 1)) || s.charAt(i - 1) == ')');
            if (depth == 0 && signs.indexOf(c) >= 0 && (c != '-' || behindOperand)) {
                parts.add(s.substring(from, i));
                from = i + 1;
            }
        }
        parts.add(s.substring(from));
        return parts;
    }

    private static boolean isE(String s, int left) {
        for (String a : split(s, "|")) {
            for (String b : split(a, "&")) {
                List<String> sums = split(b, "<=>");
                if (sums.size() > 2) {
                    return false;
                }
                for (String sum : sums) {
                    for (String product : split(sum, "+-")) {
                        for (String operand : split(product, "*/%")) {
                            if (!isO(operand, left)) {
                                return false;
                            }
                        }
                    }
                }
            }
        }
        return true;
    }

    private static boolean isO(String s, int left) {
        if (s.matches("[0-9]{1,4}|[wxtlor]")) {
            return true;
        }
        if (left == 0 || s.isEmpty()) {
            return false;
        }
        if (s.charAt(0) == '!' || s.charAt(0) == '-') {
            return isO(s.substring(1), left - 1);
        }
        return s.length() > 1 && s.charAt(0) == '(' && closing(s) == s.length() - 1
                && isE(s.substring(1, s.length() - 1), left - 1);
    }

    private static int closing(String s) {
        int depth = 0;
        for (int i = 0; i < s.length(); i++) {
            depth += s.charAt(i) == '(' ? 1 : s.charAt(i) == ')' ? -1 : 0;
            if (depth == 0) {
                return i;
            }
        }
        return -1;
    }

    static int number(String text, IntUnaryOperator names) {
        for (String line : split(text, ";")) {
            List<String> parts = split(line, "?");
            if (parts.size() == 1) {
                return e(line, names);
            }
            if (e(parts.get(0), names) != 0) {
                return e(parts.get(1), names);
            }
        }
        return 0;
    }

    /** The signs that part s, in their order. */
    private static String between(String s, List<String> parts) {
        StringBuilder signs = new StringBuilder();
        int at = 0;
        for (int i = 0; i + 1 < parts.size(); i++) {
            at += parts.get(i).length();
            signs.append(s.charAt(at));
            at++;
        }
        return signs.toString();
    }

    private static int e(String s, IntUnaryOperator names) {
        String[] levels = {"|", "&", "<=>", "+-", "*/%"};
        return level(s, levels, 0, names);
    }

    private static int level(String s, String[] levels, int at, IntUnaryOperator names) {
        if (at == levels.length) {
            return o(s, names);
        }
        List<String> parts = split(s, levels[at]);
        String signs = between(s, parts);
        int value = level(parts.get(0), levels, at + 1, names);
        for (int i = 1; i < parts.size(); i++) {
            int b = level(parts.get(i), levels, at + 1, names);
            switch (signs.charAt(i - 1)) {
                case '|' -> value = value != 0 || b != 0 ? 1 : 0;
                case '&' -> value = value != 0 && b != 0 ? 1 : 0;
                case '<' -> value = value < b ? 1 : 0;
                case '=' -> value = value == b ? 1 : 0;
                case '>' -> value = value > b ? 1 : 0;
                case '+' -> value += b;
                case '-' -> value -= b;
                case '*' -> value *= b;
                case '/' -> value = b == 0 ? 0 : value / b;
                default -> value = b == 0 ? 0 : value % b;
            }
        }
        return value;
    }

    private static int o(String s, IntUnaryOperator names) {
        char c = s.charAt(0);
        if (c == '!') {
            return o(s.substring(1), names) == 0 ? 1 : 0;
        }
        if (c == '-') {
            return -o(s.substring(1), names);
        }
        if (c == '(') {
            return e(s.substring(1, s.length() - 1), names);
        }
        return Character.isDigit(c) ? Integer.parseInt(s) : names.applyAsInt(c);
    }

    // ---- an evening

    /** Who has what, by people (-1: nothing); how often parcels were taken; how many turns. */
    static final class Party {
        final List<Integer> has = new ArrayList<>();
        final int[] taken = new int[7];
        int opened = 0;
        int who = -1;
        int just = -1;
        int turns = 0;

        Party(int n) {
            for (int i = 0; i < n; i++) {
                has.add(-1);
            }
        }

        Party copy() {
            Party other = new Party(0);
            other.has.addAll(has);
            System.arraycopy(taken, 0, other.taken, 0, 7);
            other.opened = opened;
            other.who = who;
            other.just = just;
            other.turns = turns;
            return other;
        }
    }

    Party begun(List<Integer> byLot) {
        Party p = new Party(n);
        p.who = n == 0 ? -1 : byLot.get(0);
        return p;
    }

    void open(Party p, List<Integer> byLot) {
        p.has.set(p.who, p.opened);
        p.opened++;
        p.just = -1;
        p.who = p.opened < n ? byLot.get(p.opened) : -1;
        p.turns++;
    }

    boolean may(Party p, int parcel) {
        return p.has.contains(parcel) && parcel != p.just && p.taken[parcel] < most;
    }

    int take(Party p, int parcel) {
        int from = p.has.indexOf(parcel);
        p.has.set(from, -1);
        p.has.set(p.who, parcel);
        p.taken[parcel]++;
        p.just = parcel;
        p.who = from;
        p.turns++;
        return from;
    }

    private int guess(Party p) {
        int sum = 0;
        for (int parcel = p.opened; parcel < n; parcel++) {
            sum += worth[p.who][parcel];
        }
        return sum / (n - p.opened);
    }

    /** The parcel to be taken; -1: opening. */
    int choice(Party p) {
        int who = p.who;
        int guess = guess(p);
        List<Integer> may = new ArrayList<>();
        for (int parcel = 0; parcel < n; parcel++) {
            if (may(p, parcel)) {
                may.add(parcel);
            }
        }
        if (way[who] == 2) {
            int wrapped = n - p.opened;
            may.sort((a, b) -> {
                int byLaw = Integer.compare(lawOf(p, b, wrapped), lawOf(p, a, wrapped));
                return byLaw != 0 ? byLaw : a - b;
            });
            int opening = number(law, c -> c == 'w' ? guess : c == 'o' ? 1 : c == 'r' ? wrapped : 0);
            return may.isEmpty() || lawOf(p, may.get(0), wrapped) <= opening ? -1 : may.get(0);
        }
        may.removeIf(parcel -> worth[who][parcel] <= guess);
        if (way[who] == 1) {
            may.sort((a, b) -> 100 * (like[who][p.has.indexOf(a)] - like[who][p.has.indexOf(b)]) + a - b);
        } else {
            may.sort((a, b) -> 100 * (worth[who][b] - worth[who][a]) + a - b);
        }
        return may.isEmpty() ? -1 : may.get(0);
    }

    private int lawOf(Party p, int parcel, int wrapped) {
        int holder = p.has.indexOf(parcel);
        return number(law, c -> switch (c) {
            case 'w' -> worth[p.who][parcel];
            case 'x' -> worth[holder][parcel];
            case 't' -> p.taken[parcel];
            case 'l' -> like[p.who][holder];
            case 'o' -> 0;
            default -> wrapped;
        });
    }

    int playOut(Party p, List<Integer> byLot) {
        int count = 0;
        for (; p.who >= 0; count++) {
            int parcel = choice(p);
            if (parcel < 0) {
                open(p, byLot);
            } else {
                take(p, parcel);
            }
        }
        return count;
    }

    void onceMore(Party p, List<Integer> byLot) {
        int first = byLot.get(0);
        int own = p.has.get(first);
        int wished = own;
        for (int parcel = 0; parcel < n; parcel++) {
            if (p.taken[parcel] < most && worth[first][parcel] > worth[first][wished]) {
                wished = parcel;
            }
        }
        if (wished != own) {
            p.has.set(p.has.indexOf(wished), own);
            p.has.set(first, wished);
            p.taken[wished]++;
            p.turns++;
        }
    }

    Party evening(List<Integer> byLot) {
        Party p = begun(byLot);
        playOut(p, byLot);
        if (again == 1 && n > 0) {
            onceMore(p, byLot);
        }
        return p;
    }

    int worths(Party p) {
        int sum = 0;
        for (int who = 0; who < n; who++) {
            sum += worth[who][p.has.get(who)];
        }
        return sum;
    }

    // ---- in thought

    Party exact(Party p) {
        if (p.who < 0) {
            return p;
        }
        int who = p.who;
        Party next = p.copy();
        open(next, lot);
        Party best = exact(next);
        for (int parcel = 0; parcel < n; parcel++) {
            if (may(p, parcel)) {
                next = p.copy();
                take(next, parcel);
                Party end = exact(next);
                if (worth[who][end.has.get(who)] > worth[who][best.has.get(who)]) {
                    best = end;
                }
            }
        }
        return best;
    }

    /** All rows of 0 .. n-1, the least ahead. */
    List<List<Integer>> rows() {
        List<List<Integer>> rows = new ArrayList<>();
        grow(new ArrayList<>(), rows);
        return rows;
    }

    private void grow(List<Integer> start, List<List<Integer>> rows) {
        if (start.size() == n) {
            rows.add(new ArrayList<>(start));
            return;
        }
        for (int i = 0; i < n; i++) {
            if (!start.contains(i)) {
                start.add(i);
                grow(start, rows);
                start.remove(start.size() - 1);
            }
        }
    }

    int worths(List<Integer> parting) {
        int sum = 0;
        for (int who = 0; who < n; who++) {
            sum += worth[who][parting.get(who)];
        }
        return sum;
    }

    List<Integer> best() {
        List<Integer> best = null;
        for (List<Integer> parting : rows()) {
            if (best == null || worths(parting) > worths(best)) {
                best = parting;
            }
        }
        return best;
    }

    int pairs() {
        Party p = evening(lot);
        int count = 0;
        for (int a = 0; a < n; a++) {
            for (int b = 0; b < a; b++) {
                int hasA = p.has.get(a);
                int hasB = p.has.get(b);
                if (worth[a][hasB] > worth[a][hasA] && worth[b][hasA] > worth[b][hasB]) {
                    count++;
                }
            }
        }
        return count;
    }

    int face(int parcel) {
        for (int x = 0; x < 100; x++) {
            Model other = new Model();
            other.n = n;
            other.most = most;
            other.again = again;
            other.law = law;
            other.lot = lot;
            for (int who = 0; who < 7; who++) {
                other.way[who] = way[who];
                for (int k = 0; k < 7; k++) {
                    other.worth[who][k] = k == parcel ? Math.max(0, worth[who][k] - x) : worth[who][k];
                    other.like[who][k] = like[who][k];
                }
            }
            if (other.evening(lot).taken[parcel] == 0) {
                return x;
            }
        }
        return -2;
    }

    int[] numbers(int seed, int many) {
        int[] sums = new int[n];
        int z = seed;
        for (int draw = 0; draw < many; draw++) {
            List<Integer> drawn = new ArrayList<>(lot);
            for (int i = n - 1; i >= 1; i--) {
                z = z * 1103515245 + 12345;
                java.util.Collections.swap(drawn, i, (z >>> 8) % (i + 1));
            }
            Party p = evening(drawn);
            for (int place = 0; place < n; place++) {
                sums[place] += worth[drawn.get(place)][p.has.get(drawn.get(place))];
            }
        }
        return sums;
    }

    int judge(Party p, List<Integer> told) {
        for (int who = 0; who < n && who < told.size(); who++) {
            if (!told.get(who).equals(p.has.get(who))) {
                return who;
            }
        }
        return -2;
    }

    int lots(List<Integer> told) {
        int count = 0;
        for (List<Integer> row : rows()) {
            if (judge(evening(row), told) == -2) {
                count++;
            }
        }
        return count;
    }
}
