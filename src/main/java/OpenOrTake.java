import java.util.Arrays;

/**
 * A party whose people open parcels or take them from one another.
 * README.md tells how to use it; the promises stand in the project's document.
 */
public final class OpenOrTake {
    public static final int BAD = -1, NOT = -2, FULL = -3, STATE = -5, VOID = -2000000000;

    private static final int NOTHING_THERE = -11, OTHER_KIND = -12, NO_PLACE = -13, SIZE_BELOW_0 = -14;
    private static final int NONE = -1;
    private static final int MOST_PEOPLE = 7;
    private static final int TAPE_SIZE = 120;
    private static final int FAULT_BASE = -100;
    private static final int WORTH = 0, LIKE = 1, WAY = 2, MOST = 3, AGAIN = 4;
    private static final int MOST_LIKE = 9;

    private final Party party = new Party();
    private final Changes changes = new Changes();
    private final Tape tape = new Tape();
    private final Evening deed = new Evening();
    private final Evening kept = new Evening();
    private final Thought thought = new Thought(party);
    private final Bodies bodies = new Bodies();
    private final Shelves shelves = new Shelves();
    private int peopleOfImage = NONE;

    public OpenOrTake() {
    }

    // ---- people

    public int person(int way) {
        if (way < 0 || way > 2) {
            return BAD;
        }
        if (deed.hasBegun()) {
            return STATE;
        }
        return party.people >= MOST_PEOPLE ? FULL : welcome(way);
    }

    public int people(int shelf, int i, int n) {
        if (!shelves.isShelf(shelf) || n < 1 || n > MOST_PEOPLE) {
            return BAD;
        }
        int refusal = shelves.refusalOfBytes(shelf);
        if (refusal == OTHER_KIND) {
            return OTHER_KIND;
        }
        if (deed.hasBegun()) {
            return STATE;
        }
        int came = 0;
        if (refusal == 0 && i >= 0 && i < Shelves.LONGEST_ROW) {
            while (came < n && party.people < MOST_PEOPLE && welcomeFrom(shelf, i + came)) {
                came++;
            }
        }
        return came;
    }

    public int mend(int number, int what, int v) {
        if (!party.knows(number, what) || !Party.allows(what, v)) {
            return BAD;
        }
        int before = party.value(number, what);
        changes.note(number, what, before, v);
        party.become(number, what, v);
        return before;
    }

    public int of(int number, int what) {
        if (what >= WORTH && what <= AGAIN) {
            return party.knows(number, what) ? party.value(number, what) : BAD;
        }
        if (!party.isOne(number)) {
            return BAD;
        }
        switch (what) {
            case 10:
                return deed.lot[number];
            case 11:
                return deed.has[number] < 0 ? NOT : deed.has[number];
            case 12:
                return deed.taken[number];
            case 13:
                return number >= deed.opened ? 1 : 0;
            default:
                return BAD;
        }
    }

    public int swap(int ij) {
        if (!party.isPair(ij) || ij / 10 == ij % 10) {
            return BAD;
        }
        if (deed.hasBegun()) {
            return STATE;
        }
        deed.changePlaces(ij / 10, ij % 10);
        return deed.lot[ij / 10];
    }

    public int feed(int letter) {
        if (letter < 0 || letter > 255) {
            return BAD;
        }
        return tape.append(letter) ? tape.length : FULL;
    }

    public int law() {
        int fault = tape.read();
        if (fault != NONE) {
            return FAULT_BASE - fault;
        }
        party.law = tape.draftFor(party.law);
        return 1;
    }

    // ---- in deed

    public int turn() {
        return deed.whoseTurn(party);
    }

    public int open() {
        int who = deed.whoseTurn(party);
        return who < 0 ? STATE : deed.unwrap(who);
    }

    public int take(int parcel) {
        if (!party.isOne(parcel)) {
            return BAD;
        }
        int who = deed.whoseTurn(party);
        if (who < 0) {
            return STATE;
        }
        return deed.mayRob(parcel, party) ? deed.rob(who, parcel) : NOT;
    }

    public int goOn() {
        return deed.playTill(party.people, party);
    }

    public int again() {
        if (party.again == 0 || deed.againWas || !deed.hasEnded(party)) {
            return STATE;
        }
        deed.chooseOnceMore(party);
        return deed.has[deed.lot[0]];
    }

    public int anew() {
        deed.wrapAll();
        return party.people;
    }

    public int led(int what) {
        if (what < 0 || what > 2) {
            return BAD;
        }
        if (what == 2) {
            return deed.turns;
        }
        if (deed.turns == 0) {
            return STATE;
        }
        return what == 0 ? deed.latestWho : deed.latestGot;
    }

    // ---- in thought

    public int evening(int number, int what) {
        boolean ofOne = what == 0 || what == 3;
        if (what < 0 || what > 3 || (ofOne ? !party.isOne(number) : number != 0)) {
            return BAD;
        }
        Evening end = thought.eveningBy(deed.lot);
        switch (what) {
            case 0:
                return end.has[number];
            case 1:
                return end.turns;
            case 2:
                return end.worths(party);
            default:
                return end.taken[number];
        }
    }

    public int exact(int person) {
        if (person != NONE && !party.isOne(person)) {
            return BAD;
        }
        if (party.people > 3 || party.most > 2) {
            return STATE;
        }
        return thought.eachForItself(deed.lot, person);
    }

    public int best(int person) {
        if (person != NONE && !party.isOne(person)) {
            return BAD;
        }
        return thought.bestParting(person);
    }

    public int pairs() {
        return thought.pairsWhoWouldChange(deed.lot);
    }

    public int face(int parcel) {
        return party.isOne(parcel) ? thought.leastFace(deed.lot, parcel) : BAD;
    }

    public int numbers(int seed, int n, int place) {
        if (n < 1 || n > 30 || (place != NONE && !party.isOne(place))) {
            return BAD;
        }
        thought.drawNumbers(deed.lot, seed, n);
        return place == NONE ? thought.unlike() : thought.sums[place];
    }

    public int judge(int shelf) {
        int refusal = shelves.refusalOfBytes(shelf);
        if (refusal != 0) {
            return refusal;
        }
        thought.hear(shelves.rows[shelf], shelves.size[shelf]);
        return thought.firstUnlikeTold(thought.eveningBy(deed.lot));
    }

    public int lots(int shelf) {
        int refusal = shelves.refusalOfBytes(shelf);
        if (refusal != 0) {
            return refusal;
        }
        thought.hear(shelves.rows[shelf], shelves.size[shelf]);
        return thought.lotsAsTold();
    }

    public int image() {
        kept.become(deed);
        peopleOfImage = party.people;
        return party.people;
    }

    public int back() {
        if (peopleOfImage != party.people) {
            return STATE;
        }
        deed.become(kept);
        return party.people;
    }

    public int undo() {
        if (changes.done <= 0) {
            return STATE;
        }
        changes.stepBack(party);
        return changes.done;
    }

    public int redo() {
        if (changes.done >= changes.all) {
            return STATE;
        }
        changes.stepOn(party);
        return changes.all - changes.done;
    }

    // ---- acts, shelves

    public int body(int kind) {
        if (kind < 0 || kind >= Bodies.KINDS) {
            return BAD;
        }
        return bodies.add(kind);
    }

    public int act(int body, int act, int x) {
        return bodies.perform(body, act, x);
    }

    public int trace(int i) {
        return bodies.traced(i);
    }

    public int keep(int shelf, int body) {
        if (!shelves.isShelf(shelf) || (body != NONE && !bodies.isThere(body))) {
            return BAD;
        }
        shelves.holdBody(shelf, body);
        return 1;
    }

    public int row(int shelf, int sort, int n) {
        if (!shelves.isShelf(shelf) || sort < Shelves.BYTES || sort > Shelves.BOOLEANS
                || n > Shelves.LONGEST_ROW) {
            return BAD;
        }
        if (n < 0) {
            return SIZE_BELOW_0;
        }
        shelves.holdRow(shelf, sort, n);
        return 1;
    }

    public int put(int shelf, int i, long v) {
        int refusal = shelves.refusalOfElement(shelf, i);
        if (refusal != 0) {
            return refusal;
        }
        shelves.rows[shelf][i] = Shelves.lowestBits(shelves.sort[shelf], v);
        return 1;
    }

    public long element(int shelf, int i) {
        return shelves.refusalOfElement(shelf, i) != 0 ? Long.MIN_VALUE : shelves.rows[shelf][i];
    }

    public int shift(int shelf, int i, int other, int j, int n) {
        if (!shelves.isShelf(shelf) || !shelves.isShelf(other)) {
            return BAD;
        }
        if (shelves.isEmpty(shelf) || shelves.isEmpty(other)) {
            return NOTHING_THERE;
        }
        if (!shelves.isRow(shelf) || shelves.sort[shelf] != shelves.sort[other]) {
            return OTHER_KIND;
        }
        if (!shelves.reaches(shelf, i, n) || !shelves.reaches(other, j, n)) {
            return NO_PLACE;
        }
        System.arraycopy(shelves.rows[shelf], i, shelves.rows[other], j, n);
        return n;
    }

    public int taken(int shelf, int k) {
        if (!shelves.isShelf(shelf) || k < 0 || k >= Bodies.KINDS) {
            return BAD;
        }
        if (shelves.isEmpty(shelf)) {
            return NOTHING_THERE;
        }
        int kind = shelves.isRow(shelf) ? NONE : bodies.kindOf(shelves.size[shelf]);
        return Bodies.isUnder(kind, k) ? kind : OTHER_KIND;
    }

    public int count(int what) {
        switch (what) {
            case 0:
                return party.people;
            case 1:
                return party.people - deed.opened;
            case 2:
                return deed.countSafe(party);
            case 3:
                return tape.length;
            case 4:
                return changes.done;
            case 5:
                return bodies.count;
            case 6:
                return bodies.ran;
            default:
                return BAD;
        }
    }

    private int welcome(int way) {
        int number = party.people;
        if (number >= MOST_PEOPLE) {
            return FULL;
        }
        party.way[number] = way;
        deed.lot[number] = number;
        party.people = number + 1;
        return number;
    }

    /** Whether a person came by element i of a row of bytes. */
    private boolean welcomeFrom(int shelf, int i) {
        if (shelves.refusalOfElement(shelf, i) != 0) {
            return false;
        }
        int way = (int) shelves.rows[shelf][i];
        return way >= 0 && way <= 2 && welcome(way) >= 0;
    }

    /** What the people are like, and the laws of the party. */
    private static final class Party {
        private static final int PN = 10 * MOST_PEOPLE;

        int people = 0;
        final int[] worth = new int[PN];
        final int[] like = new int[PN];
        final int[] way = new int[MOST_PEOPLE];
        int most = 3;
        int again = 0;
        Law law = new Law();

        Party() {
            Arrays.fill(like, 5);
        }

        boolean isOne(int number) {
            return number >= 0 && number < people;
        }

        boolean isPair(int pn) {
            return pn >= 0 && pn < PN && isOne(pn / 10) && isOne(pn % 10);
        }

        /** The worth of a parcel for one; 0 where one has none. */
        int worthFor(int who, int parcel) {
            boolean is = who >= 0 && who < people && parcel >= 0 && parcel < people;
            return is ? worth[10 * who + parcel] : 0;
        }

        int likeFor(int who, int other) {
            boolean is = who >= 0 && who < people && other >= 0 && other < people;
            return is ? like[10 * who + other] : 0;
        }

        boolean knows(int number, int what) {
            switch (what) {
                case WORTH:
                    return isPair(number);
                case LIKE:
                    return isPair(number) && number / 10 != number % 10;
                case WAY:
                    return isOne(number);
                case MOST:
                case AGAIN:
                    return number == 0;
                default:
                    return false;
            }
        }

        static boolean allows(int what, int v) {
            switch (what) {
                case WORTH:
                    return v >= 0 && v <= 99;
                case LIKE:
                    return v >= 0 && v <= MOST_LIKE;
                case WAY:
                    return v >= 0 && v <= 2;
                case MOST:
                    return v >= 1 && v <= 3;
                case AGAIN:
                    return v == 0 || v == 1;
                default:
                    return false;
            }
        }

        int value(int number, int what) {
            if (!knows(number, what)) {
                return BAD;
            }
            switch (what) {
                case WORTH:
                    return worth[number];
                case LIKE:
                    return like[number];
                case WAY:
                    return way[number];
                case MOST:
                    return most;
                default:
                    return again;
            }
        }

        void become(int number, int what, int v) {
            if (!knows(number, what)) {
                return;
            }
            switch (what) {
                case WORTH:
                    worth[number] = v;
                    break;
                case LIKE:
                    like[number] = v;
                    break;
                case WAY:
                    way[number] = v;
                    break;
                case MOST:
                    most = v;
                    break;
                default:
                    again = v;
                    break;
            }
        }
    }

    /** The latest mendings, to be undone and done again. */
    private static final class Changes {
        private static final int KEPT = 40;

        private final int[] number = new int[KEPT];
        private final int[] what = new int[KEPT];
        private final int[] before = new int[KEPT];
        private final int[] after = new int[KEPT];
        /** The changes below done stand; those from it to all were undone. */
        int done = 0;
        int all = 0;

        /** What becomes as it was already is no change, so it is not kept, and ends nothing that may be done again. */
        void note(int ofNumber, int ofWhat, int was, int becomes) {
            if (was == becomes) {
                return;
            }
            if (done >= KEPT) {
                forgetOldest();
            }
            number[done] = ofNumber;
            what[done] = ofWhat;
            before[done] = was;
            after[done] = becomes;
            done++;
            all = done;
        }

        private void forgetOldest() {
            System.arraycopy(number, 1, number, 0, KEPT - 1);
            System.arraycopy(what, 1, what, 0, KEPT - 1);
            System.arraycopy(before, 1, before, 0, KEPT - 1);
            System.arraycopy(after, 1, after, 0, KEPT - 1);
            done = KEPT - 1;
        }

        void stepBack(Party party) {
            if (done > 0 && done <= KEPT) {
                done--;
                party.become(number[done], what[done], before[done]);
            }
        }

        void stepOn(Party party) {
            if (done >= 0 && done < all && done < KEPT) {
                party.become(number[done], what[done], after[done]);
                done++;
            }
        }
    }

    /** A read text, as signs in the order in which they are worked out. */
    private static final class Law {
        static final char NUMBER = '#', NAME = '$', NEGATION = '~', IF_NOT_0 = '?', END_OF_LINE = ';';
        /** Each byte of a text makes one sign at most, and the last line has an end of its own. */
        private static final int LONGEST = TAPE_SIZE + 1;
        private static final int W = 0, X = 1, T = 2, L = 3, O = 4, R = 5, NAMES = 6;

        private final char[] sign = new char[LONGEST];
        /** Of a NUMBER its value, of a NAME which it is, of IF_NOT_0 where its line ends. */
        private final int[] detail = new int[LONGEST];
        private int length = 0;
        private int latestIf = NONE;
        private final int[] stack = new int[LONGEST];
        private final int[] named = new int[NAMES];

        /** Without a text it is w. */
        Law() {
            sign[0] = NAME;
            detail[0] = W;
            sign[1] = END_OF_LINE;
            length = 2;
        }

        void clear() {
            length = 0;
            latestIf = NONE;
        }

        void write(char what, int value) {
            if (length < LONGEST) {
                sign[length] = what;
                detail[length] = value;
                length++;
            }
        }

        void writeIf() {
            latestIf = length;
            write(IF_NOT_0, length);
        }

        void writeEndOfLine() {
            if (latestIf >= 0 && latestIf < LONGEST) {
                detail[latestIf] = length;
            }
            latestIf = NONE;
            write(END_OF_LINE, 0);
        }

        /** Which NAME a sign is; NONE. */
        static int nameOf(int letter) {
            switch (letter) {
                case 'w':
                    return W;
                case 'x':
                    return X;
                case 't':
                    return T;
                case 'l':
                    return L;
                case 'o':
                    return O;
                case 'r':
                    return R;
                default:
                    return NONE;
            }
        }

        /** The number of one thing to do, by what the NAMES tell of it. */
        int number(int w, int x, int t, int l, int o, int r) {
            named[W] = w;
            named[X] = x;
            named[T] = t;
            named[L] = l;
            named[O] = o;
            named[R] = r;
            int top = 0;
            for (int at = 0; at < length && at < LONGEST && top < LONGEST; at++) {
                int own = detail[at];
                switch (sign[at]) {
                    case END_OF_LINE:
                        return top < 1 ? 0 : stack[top - 1];
                    case IF_NOT_0:
                        // at goes on behind the line's end, never back
                        at = top >= 1 && stack[top - 1] == 0 && own > at ? own : at;
                        top = 0;
                        break;
                    case NUMBER:
                        stack[top] = own;
                        top++;
                        break;
                    case NAME:
                        stack[top] = own >= 0 && own < NAMES ? named[own] : 0;
                        top++;
                        break;
                    case '!':
                        top = Math.max(top, 1);
                        stack[top - 1] = stack[top - 1] == 0 ? 1 : 0;
                        break;
                    case NEGATION:
                        top = Math.max(top, 1);
                        stack[top - 1] = -stack[top - 1];
                        break;
                    default:
                        top = Math.max(top - 1, 1);
                        stack[top - 1] = joined(sign[at], stack[top - 1], stack[top]);
                        break;
                }
            }
            return 0;
        }

        private static int joined(char operator, int a, int b) {
            switch (operator) {
                case '|':
                    return a != 0 || b != 0 ? 1 : 0;
                case '&':
                    return a != 0 && b != 0 ? 1 : 0;
                case '<':
                    return a < b ? 1 : 0;
                case '=':
                    return a == b ? 1 : 0;
                case '>':
                    return a > b ? 1 : 0;
                case '+':
                    return a + b;
                case '-':
                    return a - b;
                case '*':
                    return a * b;
                case '/':
                    return b == 0 ? 0 : a / b;
                default:
                    return b == 0 ? 0 : a % b;
            }
        }
    }

    /** The tape, and how a text on it is read. */
    private static final class Tape {
        private static final int MOST_OPEN = 6;
        private static final int MOST_DIGITS = 4;
        private static final int END = -1;

        private final char[] bytes = new char[TAPE_SIZE];
        int length = 0;
        private int at = 0;
        private int fault = NONE;
        private Law draft = new Law();

        boolean append(int letter) {
            if (length >= TAPE_SIZE) {
                return false;
            }
            bytes[length] = (char) letter;
            length++;
            return true;
        }

        /** Writes the text into the draft: its FAULT, or NONE. The tape is empty then. */
        int read() {
            at = 0;
            fault = NONE;
            draft.clear();
            line();
            for (int n = 0; n < TAPE_SIZE && comes(';'); n++) {
                line();
            }
            if (at < length) {
                fail();
            }
            length = 0;
            return fault;
        }

        /** The draft, for the law that it takes the place of: that one's rows are written on next. */
        Law draftFor(Law former) {
            Law written = draft;
            draft = former;
            return written;
        }

        /** What is ahead; END behind the last byte, and behind a fault, so that all reading stops there. */
        private int ahead() {
            return fault == NONE && at < length && at < TAPE_SIZE ? bytes[at] : END;
        }

        private boolean comes(char wanted) {
            boolean so = ahead() == wanted;
            if (so) {
                at++;
            }
            return so;
        }

        /** The first fault counts. */
        private void fail() {
            if (fault == NONE) {
                fault = at;
            }
        }

        private void write(char sign) {
            draft.write(sign, 0);
        }

        private void line() {
            either(0);
            if (comes('?')) {
                draft.writeIf();
                either(0);
            }
            draft.writeEndOfLine();
        }

        /** E; open is how many of ( ! - are open around it. */
        private void either(int open) {
            both(open);
            for (int n = 0; n < TAPE_SIZE && comes('|'); n++) {
                both(open);
                write('|');
            }
        }

        /** A. */
        private void both(int open) {
            compared(open);
            for (int n = 0; n < TAPE_SIZE && comes('&'); n++) {
                compared(open);
                write('&');
            }
        }

        /** B. */
        private void compared(int open) {
            sum(open);
            int sign = ahead();
            if (sign == '<' || sign == '=' || sign == '>') {
                at++;
                sum(open);
                write((char) sign);
            }
        }

        /** S. */
        private void sum(int open) {
            product(open);
            int sign = ahead();
            for (int n = 0; n < TAPE_SIZE && (sign == '+' || sign == '-'); n++) {
                at++;
                product(open);
                write((char) sign);
                sign = ahead();
            }
        }

        /** P. */
        private void product(int open) {
            operand(open);
            int sign = ahead();
            for (int n = 0; n < TAPE_SIZE && (sign == '*' || sign == '/' || sign == '%'); n++) {
                at++;
                operand(open);
                write((char) sign);
                sign = ahead();
            }
        }

        /** O. */
        private void operand(int open) {
            int sign = ahead();
            if (isDigit(sign)) {
                number();
            } else if (Law.nameOf(sign) != NONE) {
                at++;
                draft.write(Law.NAME, Law.nameOf(sign));
            } else if (open >= MOST_OPEN) {
                fail();
            } else if (sign == '!' || sign == '-') {
                at++;
                operand(open + 1);
                write(sign == '-' ? Law.NEGATION : '!');
            } else if (sign == '(') {
                at++;
                either(open + 1);
                if (!comes(')')) {
                    fail();
                }
            } else {
                fail();
            }
        }

        private void number() {
            int value = 0;
            for (int digits = 0; digits < MOST_DIGITS && isDigit(ahead()); digits++) {
                value = 10 * value + (ahead() - '0');
                at++;
            }
            draft.write(Law.NUMBER, value);
        }

        private static boolean isDigit(int sign) {
            return sign >= '0' && sign <= '9';
        }
    }

    /**
     * Where an evening stands. Parcels are opened by their numbers, one for each place of the lot,
     * so opened tells the wrapped ones and the next place too.
     */
    private static final class Evening {
        /** More than all parcels can be opened and taken. */
        private static final int MOST_TURNS = 100;

        final int[] lot = new int[MOST_PEOPLE];
        final int[] has = new int[MOST_PEOPLE];
        final int[] holder = new int[MOST_PEOPLE];
        final int[] taken = new int[MOST_PEOPLE];
        int opened = 0;
        /** Who was robbed just now, and of which parcel; NONE behind an opening. */
        private int robbed = NONE;
        private int just = NONE;
        boolean againWas = false;
        int latestWho = NONE;
        int latestGot = NONE;
        int turns = 0;

        Evening() {
            Arrays.fill(has, NONE);
            Arrays.fill(holder, NONE);
        }

        boolean hasBegun() {
            return opened > 0;
        }

        boolean hasEnded(Party party) {
            return hasBegun() && opened >= party.people;
        }

        void wrapAll() {
            Arrays.fill(has, NONE);
            Arrays.fill(holder, NONE);
            Arrays.fill(taken, 0);
            opened = 0;
            robbed = NONE;
            just = NONE;
            againWas = false;
        }

        void become(Evening other) {
            System.arraycopy(other.lot, 0, lot, 0, MOST_PEOPLE);
            System.arraycopy(other.has, 0, has, 0, MOST_PEOPLE);
            System.arraycopy(other.holder, 0, holder, 0, MOST_PEOPLE);
            System.arraycopy(other.taken, 0, taken, 0, MOST_PEOPLE);
            opened = other.opened;
            robbed = other.robbed;
            just = other.just;
            againWas = other.againWas;
            latestWho = other.latestWho;
            latestGot = other.latestGot;
            turns = other.turns;
        }

        void beginBy(int[] places) {
            System.arraycopy(places, 0, lot, 0, MOST_PEOPLE);
            wrapAll();
            turns = 0;
        }

        void changePlaces(int i, int j) {
            int who = lot[i];
            lot[i] = lot[j];
            lot[j] = who;
        }

        int whoseTurn(Party party) {
            if (robbed != NONE) {
                return robbed;
            }
            return opened < party.people && opened < MOST_PEOPLE ? lot[opened] : NOT;
        }

        boolean isSafe(int parcel, Party party) {
            return taken[parcel] >= party.most;
        }

        int countSafe(Party party) {
            int count = 0;
            for (int parcel = 0; parcel < party.people; parcel++) {
                if (isSafe(parcel, party)) {
                    count++;
                }
            }
            return count;
        }

        boolean mayRob(int parcel, Party party) {
            return parcel >= 0 && parcel < opened && parcel != just && !isSafe(parcel, party);
        }

        /** One whose turn it is opens: the parcel. */
        int unwrap(int who) {
            if (opened >= MOST_PEOPLE) {
                return STATE;
            }
            int parcel = opened;
            opened++;
            robbed = NONE;
            just = NONE;
            give(who, parcel);
            return parcel;
        }

        /** One whose turn it is takes a parcel that it may: from whom. */
        int rob(int who, int parcel) {
            int from = holder[parcel];
            if (from < 0) {
                return NOT;
            }
            has[from] = NONE;
            taken[parcel]++;
            robbed = from;
            just = parcel;
            give(who, parcel);
            return from;
        }

        private void give(int who, int parcel) {
            has[who] = parcel;
            holder[parcel] = who;
            latestWho = who;
            latestGot = parcel;
            turns++;
        }

        /** Turns by ways till so many are opened: how many turns. */
        int playTill(int manyOpened, Party party) {
            int count = 0;
            int who = whoseTurn(party);
            while (count < MOST_TURNS && who >= 0 && opened < manyOpened) {
                int way = party.way[who];
                int parcel = way == 2 ? byTheLaw(who, party)
                        : way == 1 ? fromWhomItLikesLeast(who, party) : ofMostWorth(who, party);
                if (parcel == NONE) {
                    unwrap(who);
                } else {
                    rob(who, parcel);
                }
                count++;
                who = whoseTurn(party);
            }
            return count;
        }

        private int guess(int who, Party party) {
            int wrapped = party.people - opened;
            int sum = 0;
            for (int parcel = opened; parcel < party.people; parcel++) {
                sum += party.worthFor(who, parcel);
            }
            return wrapped <= 0 ? 0 : sum / wrapped;
        }

        /** WAY 0: the parcel that one takes; NONE: it opens. */
        private int ofMostWorth(int who, Party party) {
            int most = guess(who, party);
            int wished = NONE;
            for (int parcel = 0; parcel < opened; parcel++) {
                if (mayRob(parcel, party) && party.worthFor(who, parcel) > most) {
                    most = party.worthFor(who, parcel);
                    wished = parcel;
                }
            }
            return wished;
        }

        /** WAY 1, likewise. */
        private int fromWhomItLikesLeast(int who, Party party) {
            int guess = guess(who, party);
            int least = MOST_LIKE + 1;
            int wished = NONE;
            for (int parcel = 0; parcel < opened; parcel++) {
                int like = party.likeFor(who, holder[parcel]);
                if (mayRob(parcel, party) && party.worthFor(who, parcel) > guess && like < least) {
                    least = like;
                    wished = parcel;
                }
            }
            return wished;
        }

        /** WAY 2, likewise. */
        private int byTheLaw(int who, Party party) {
            int wrapped = party.people - opened;
            int greatest = party.law.number(guess(who, party), 0, 0, 0, 1, wrapped);
            int wished = NONE;
            for (int parcel = 0; parcel < opened; parcel++) {
                if (mayRob(parcel, party)) {
                    int from = holder[parcel];
                    int number = party.law.number(party.worthFor(who, parcel),
                            party.worthFor(from, parcel), taken[parcel],
                            party.likeFor(who, from), 0, wrapped);
                    if (number > greatest) {
                        greatest = number;
                        wished = parcel;
                    }
                }
            }
            return wished;
        }

        void closeByLaw(Party party) {
            if (party.again == 1 && hasEnded(party)) {
                chooseOnceMore(party);
            }
        }

        /** AGAIN, at the end of an evening. */
        void chooseOnceMore(Party party) {
            againWas = true;
            int first = lot[0];
            int own = has[first];
            int most = party.worthFor(first, own);
            int wished = NONE;
            for (int parcel = 0; parcel < opened; parcel++) {
                if (!isSafe(parcel, party) && party.worthFor(first, parcel) > most) {
                    most = party.worthFor(first, parcel);
                    wished = parcel;
                }
            }
            if (wished != NONE && own >= 0) {
                exchange(first, own, wished);
            }
        }

        private void exchange(int first, int own, int wished) {
            int from = holder[wished];
            if (from >= 0) {
                has[from] = own;
                holder[own] = from;
                taken[wished]++;
                give(first, wished);
            }
        }

        int worths(Party party) {
            int sum = 0;
            for (int who = 0; who < party.people; who++) {
                sum += party.worthFor(who, has[who]);
            }
            return sum;
        }
    }

    /** Evenings in thought, and what is told by them. */
    private static final class Thought {
        /** Turns of an evening of three whose parcels are taken twice at most, and one for its beginning. */
        private static final int LEVELS = 10;
        private static final int TURNS = MOST_PEOPLE;

        private final Party party;
        /** Where an evening stands at each step into what could be: a deeper one comes from the one ahead. */
        private final Evening[] levels = new Evening[LEVELS];
        /** Who goes home with what from each level on, and behind PEOPLE the turns. */
        private final int[][] ends = new int[LEVELS][MOST_PEOPLE + 1];
        private final int[] mostBehind = new int[1 << MOST_PEOPLE];
        private final int[] trueWorth = new int[MOST_PEOPLE];
        private final int[] drawn = new int[MOST_PEOPLE];
        final int[] sums = new int[MOST_PEOPLE];
        private long[] told = null;
        private int toldSize = 0;

        Thought(Party party) {
            this.party = party;
            for (int level = 0; level < LEVELS; level++) {
                levels[level] = new Evening();
            }
        }

        Evening eveningBy(int[] lot) {
            Evening evening = levels[0];
            evening.beginBy(lot);
            evening.playTill(party.people, party);
            evening.closeByLaw(party);
            return evening;
        }

        /** EXACT: the parcel of one, or (NONE) the turns. */
        int eachForItself(int[] lot, int person) {
            levels[0].beginBy(lot);
            lookAhead(0);
            return ends[0][person == NONE ? TURNS : person];
        }

        private void lookAhead(int level) {
            Evening now = levels[level];
            int who = now.whoseTurn(party);
            if (who < 0 || level + 1 >= LEVELS) {
                System.arraycopy(now.has, 0, ends[level], 0, MOST_PEOPLE);
                ends[level][TURNS] = now.turns;
                return;
            }
            Evening next = levels[level + 1];
            next.become(now);
            next.unwrap(who);
            lookAhead(level + 1);
            comeTo(level);
            for (int parcel = 0; parcel < now.opened; parcel++) {
                if (now.mayRob(parcel, party)) {
                    next.become(now);
                    next.rob(who, parcel);
                    lookAhead(level + 1);
                    if (worthAtEnd(level + 1, who) > worthAtEnd(level, who)) {
                        comeTo(level);
                    }
                }
            }
        }

        private int worthAtEnd(int level, int who) {
            return party.worthFor(who, ends[level][who]);
        }

        /** What came out a level deeper comes out here too. */
        private void comeTo(int level) {
            System.arraycopy(ends[level + 1], 0, ends[level], 0, MOST_PEOPLE + 1);
        }

        /** BEST: the parcel of one, or (NONE) all worths. */
        int bestParting(int person) {
            fillMostBehind();
            if (person == NONE) {
                return mostBehind[0];
            }
            int used = 0;
            int parcel = NONE;
            for (int who = 0; who <= person && who < party.people; who++) {
                parcel = firstBest(who, used);
                if (parcel != NONE) {
                    used |= 1 << parcel;
                }
            }
            return parcel;
        }

        /** By used parcels (the people ahead have them): the most that all who are behind can get. */
        private void fillMostBehind() {
            int all = (1 << party.people) - 1;
            mostBehind[all] = 0;
            for (int used = all - 1; used >= 0; used--) {
                int who = Integer.bitCount(used);
                int most = 0;
                for (int parcel = 0; parcel < party.people; parcel++) {
                    if ((used >> parcel & 1) == 0) {
                        most = Math.max(most, worthWithAllBehind(who, parcel, used));
                    }
                }
                mostBehind[used] = most;
            }
        }

        private int worthWithAllBehind(int who, int parcel, int used) {
            return party.worthFor(who, parcel) + mostBehind[used | 1 << parcel];
        }

        private int firstBest(int who, int used) {
            for (int parcel = 0; parcel < party.people; parcel++) {
                if ((used >> parcel & 1) == 0
                        && worthWithAllBehind(who, parcel, used) == mostBehind[used]) {
                    return parcel;
                }
            }
            return NONE;
        }

        int pairsWhoWouldChange(int[] lot) {
            Evening end = eveningBy(lot);
            int count = 0;
            for (int one = 0; one < party.people; one++) {
                for (int other = one + 1; other < party.people; other++) {
                    if (envies(end, one, other) && envies(end, other, one)) {
                        count++;
                    }
                }
            }
            return count;
        }

        private boolean envies(Evening end, int one, int other) {
            return party.worthFor(one, end.has[other]) > party.worthFor(one, end.has[one]);
        }

        /** FACE: the worths are made less in the party itself, and laid back behind. */
        int leastFace(int[] lot, int parcel) {
            for (int who = 0; who < party.people; who++) {
                trueWorth[who] = party.worth[10 * who + parcel];
            }
            int least = NOT;
            for (int x = 0; x <= 99 && least == NOT; x++) {
                lessen(parcel, x);
                if (eveningBy(lot).taken[parcel] == 0) {
                    least = x;
                }
            }
            lessen(parcel, 0);
            return least;
        }

        private void lessen(int parcel, int x) {
            for (int who = 0; who < party.people; who++) {
                party.worth[10 * who + parcel] = Math.max(trueWorth[who] - x, 0);
            }
        }

        void drawNumbers(int[] lot, int seed, int n) {
            Arrays.fill(sums, 0);
            int z = seed;
            for (int draw = 0; draw < n; draw++) {
                System.arraycopy(lot, 0, drawn, 0, MOST_PEOPLE);
                for (int i = party.people - 1; i >= 1; i--) {
                    z = z * 1103515245 + 12345;
                    int j = (z >>> 8) % (i + 1);
                    int who = drawn[i];
                    drawn[i] = drawn[j];
                    drawn[j] = who;
                }
                Evening end = eveningBy(drawn);
                for (int place = 0; place < party.people; place++) {
                    int who = drawn[place];
                    sums[place] += party.worthFor(who, end.has[who]);
                }
            }
        }

        int unlike() {
            int greatest = sums[0];
            int least = sums[0];
            for (int place = 1; place < party.people; place++) {
                greatest = Math.max(greatest, sums[place]);
                least = Math.min(least, sums[place]);
            }
            return greatest - least;
        }

        void hear(long[] row, int size) {
            told = row;
            toldSize = size;
        }

        int firstUnlikeTold(Evening end) {
            for (int who = 0; who < party.people && told != null && who < toldSize && who < told.length; who++) {
                if (told[who] != end.has[who]) {
                    return who;
                }
            }
            return NOT;
        }

        int lotsAsTold() {
            levels[0].wrapAll();
            return lotsBehind(0, 0);
        }

        /** Lots with the same people ahead share what happened till then, so an evening is played once for them. */
        private int lotsBehind(int place, int used) {
            Evening now = levels[place];
            if (place >= party.people || place + 1 >= LEVELS) {
                now.closeByLaw(party);
                return firstUnlikeTold(now) == NOT ? 1 : 0;
            }
            Evening next = levels[place + 1];
            int count = 0;
            for (int who = 0; who < party.people; who++) {
                if ((used >> who & 1) == 0) {
                    next.become(now);
                    next.lot[place] = who;
                    next.playTill(place + 1, party);
                    count += lotsBehind(place + 1, used | 1 << who);
                }
            }
            return count;
        }
    }

    /** Things of kinds whose acts come from above, and the trace of what ran. */
    private static final class Bodies {
        static final int KINDS = 8;
        private static final int ACTS = 4;
        private static final int OPENS = 0, TAKES = 1, LOOKS = 2, KEEPS = 3;
        private static final int MOST_BODIES = 50;
        private static final int TRACED = 24;
        private static final int DEEPEST = 40;
        private static final int THING = 0, WRAPPED = 1, OPEN = 2, HOT = 3, SAFE = 4, SHUNNED = 5,
                KNOWN = 6, FEIGNED = 7;
        private static final int[] ABOVE = {NONE, THING, THING, OPEN, WRAPPED, HOT, THING, KNOWN};
        /** By kinds: the bodies of the four acts that a kind has itself (0: none); THING's with its interfaces'. */
        private static final int[] OWN = {
            1, 10, 11, 2,
            20, 0, 0, 0,
            0, 30, 0, 0,
            0, 41, 40, 0,
            0, 0, 0, 50,
            0, 0, 60, 61,
            70, 0, 0, 0,
            81, 80, 0, 0
        };

        private final int[] kinds = new int[MOST_BODIES];
        int count = 0;
        private final int[] trace = new int[TRACED];
        int ran = 0;
        /** Whose act runs. */
        private int self = 0;

        int add(int kind) {
            if (count >= MOST_BODIES) {
                return FULL;
            }
            kinds[count] = kind;
            count++;
            return count - 1;
        }

        boolean isThere(int body) {
            return body >= 0 && body < count;
        }

        int kindOf(int body) {
            return isThere(body) ? kinds[body] : NONE;
        }

        static boolean isUnder(int kind, int above) {
            int at = kind;
            for (int step = 0; step < KINDS && at >= 0 && at < KINDS; step++) {
                if (at == above) {
                    return true;
                }
                at = ABOVE[at];
            }
            return false;
        }

        int traced(int i) {
            return i >= 0 && i < ran && i < TRACED ? trace[i] : BAD;
        }

        int perform(int body, int act, int x) {
            ran = 0;
            if (!isThere(body) || act < OPENS || act > KEEPS) {
                return 0;
            }
            self = body;
            return own(act, x, 0);
        }

        /** An act of the body's own kind, or of the next above that has it. */
        private int own(int act, int x, int depth) {
            return from(kindOf(self), act, x, depth);
        }

        private int above(int kind, int act, int x, int depth) {
            return from(kind >= 0 && kind < KINDS ? ABOVE[kind] : NONE, act, x, depth);
        }

        private int from(int kind, int act, int x, int depth) {
            int at = kind;
            for (int step = 0; step < KINDS && at >= 0 && at < KINDS; step++) {
                if (OWN[ACTS * at + act] != 0) {
                    return depth > DEEPEST ? 0 : run(OWN[ACTS * at + act], x, depth + 1);
                }
                at = ABOVE[at];
            }
            return 0;
        }

        private void note(int body) {
            if (ran < TRACED) {
                trace[ran] = body;
            }
            ran++;
        }

        private int run(int body, int x, int depth) {
            note(body);
            switch (body) {
                case 1:
                    return x + self;
                case 2:
                    return own(TAKES, x, depth) - own(LOOKS, 1, depth);
                case 10:
                    return own(OPENS, x, depth) * 2;
                case 11:
                    return x ^ self;
                case 20:
                    return above(WRAPPED, OPENS, x, depth) + 3;
                case 30:
                    return -above(OPEN, TAKES, x, depth);
                case 40:
                    return above(HOT, LOOKS, x, depth) * 3;
                case 41:
                    return above(HOT, TAKES, x + 1, depth);
                case 50:
                    return above(SAFE, KEEPS, x, depth) ^ 5;
                case 60:
                    return above(SHUNNED, LOOKS, x, depth) - own(OPENS, 2, depth);
                case 61:
                    return above(SHUNNED, KEEPS, x, depth) + 1;
                case 70:
                    return above(KNOWN, OPENS, x, depth) * 2;
                case 80:
                    return above(FEIGNED, TAKES, x, depth) + own(LOOKS, 2, depth);
                default:
                    return above(FEIGNED, OPENS, x, depth) - 1;
            }
        }
    }

    /** The shelves: each holds nothing, a body, or a row whose elements stand in longs. */
    private static final class Shelves {
        static final int LONGEST_ROW = 60;
        static final int BYTES = 0, BOOLEANS = 4;
        private static final int SHORTS = 1, INTS = 2;
        private static final int SHELVES = 6;
        private static final int BODY = -1, EMPTY = -2;

        /** EMPTY, BODY, or the sort of a row. */
        final int[] sort = new int[SHELVES];
        /** How many elements a row has; of a body its number. */
        final int[] size = new int[SHELVES];
        final long[][] rows = new long[SHELVES][LONGEST_ROW];

        Shelves() {
            Arrays.fill(sort, EMPTY);
        }

        boolean isShelf(int shelf) {
            return shelf >= 0 && shelf < SHELVES;
        }

        boolean isEmpty(int shelf) {
            return sort[shelf] == EMPTY;
        }

        boolean isRow(int shelf) {
            return sort[shelf] >= BYTES;
        }

        void holdBody(int shelf, int body) {
            sort[shelf] = body < 0 ? EMPTY : BODY;
            size[shelf] = body;
        }

        void holdRow(int shelf, int ofSort, int n) {
            sort[shelf] = ofSort;
            size[shelf] = n;
            Arrays.fill(rows[shelf], 0);
        }

        /** 0 where a row of bytes is. */
        int refusalOfBytes(int shelf) {
            if (!isShelf(shelf)) {
                return BAD;
            }
            if (isEmpty(shelf)) {
                return NOTHING_THERE;
            }
            return sort[shelf] == BYTES ? 0 : OTHER_KIND;
        }

        /** 0 where a row has an element i. */
        int refusalOfElement(int shelf, int i) {
            if (!isShelf(shelf)) {
                return BAD;
            }
            if (isEmpty(shelf)) {
                return NOTHING_THERE;
            }
            if (!isRow(shelf)) {
                return OTHER_KIND;
            }
            return i >= 0 && i < size[shelf] ? 0 : NO_PLACE;
        }

        /** Whether a row has n places from i on; said by a difference, for a sum of the two could wrap. */
        boolean reaches(int shelf, int i, int n) {
            return i >= 0 && n >= 0 && i <= size[shelf] && n <= size[shelf] - i;
        }

        static long lowestBits(int ofSort, long v) {
            switch (ofSort) {
                case BYTES:
                    return (byte) v;
                case SHORTS:
                    return (short) v;
                case INTS:
                    return (int) v;
                case BOOLEANS:
                    return v != 0 ? 1 : 0;
                default:
                    return v;
            }
        }
    }
}
