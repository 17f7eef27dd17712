import java.util.ArrayList;
import java.util.List;
import java.util.function.Consumer;

/**
 * All that an object can be asked for, and what its next calls would do, in parts: one object answers one part
 * within its 512 calls.
 */
final class Told {
    static final int PARTS = 9;

    private final OpenOrTake x;
    private final List<Long> answers = new ArrayList<>();

    private Told(OpenOrTake x) {
        this.x = x;
    }

    static List<Long> part(OpenOrTake x, int part) {
        Told told = new Told(x);
        List<Consumer<Told>> parts = List.of(Told::people, Told::shelves, Told::sorts, Told::undoing, Told::redoing,
                Told::image, Told::tape, Told::bodies, Told::goingOn);
        parts.get(part).accept(told);
        return told.answers;
    }

    private void add(long answer) {
        answers.add(answer);
    }

    private void people() {
        int n = x.count(0);
        for (int what = 0; what <= 6; what++) {
            add(x.count(what));
        }
        for (int p = 0; p < n; p++) {
            for (int k = 0; k < n; k++) {
                add(x.of(10 * p + k, 0));
                add(x.of(10 * p + k, 1));
            }
            add(x.of(p, 2));
            for (int what = 10; what <= 13; what++) {
                add(x.of(p, what));
            }
        }
        add(x.of(0, 3));
        add(x.of(0, 4));
        for (int what = 0; what <= 2; what++) {
            add(x.led(what));
        }
        add(x.turn());
    }

    private void shelves() {
        for (int shelf = 0; shelf <= 5; shelf++) {
            add(x.taken(shelf, 0));
            for (int i = 0; i <= 60; i++) {
                add(x.element(shelf, i));
            }
        }
    }

    private void sorts() {
        for (int shelf = 0; shelf <= 5; shelf++) {
            add(x.put(shelf, 0, (1L << 40) + 0x1_8280));
            add(x.element(shelf, 0));
        }
    }

    private void undoing() {
        for (int i = 0; i <= 40; i++) {
            add(x.undo());
        }
        people();
    }

    private void redoing() {
        for (int i = 0; i <= 40; i++) {
            add(x.redo());
        }
        people();
    }

    private void image() {
        add(x.back());
        people();
        add(x.again());
    }

    private void tape() {
        add(x.law());
        thought();
    }

    private void bodies() {
        thought();
        for (int i = 0; i <= 24; i++) {
            add(x.trace(i));
        }
        for (int body = 0; body < 50; body++) {
            add(x.act(body, 3, 7));
        }
    }

    private void goingOn() {
        add(x.goOn());
        people();
        add(x.again());
    }

    private void thought() {
        for (int i = 0; i < x.count(0); i++) {
            add(x.evening(i, 0));
            add(x.evening(i, 3));
            add(x.best(i));
        }
        add(x.evening(0, 1));
        add(x.numbers(9, 5, -1));
    }
}
