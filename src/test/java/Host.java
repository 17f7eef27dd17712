import java.util.ArrayList;
import java.util.List;

/**
 * Shelves and bodies as Java itself has them: rows are its arrays, kinds its classes, acts its methods, and what the
 * host refuses is what its machine throws. (The class under test may not be written so; what it answers may be held
 * against this.)
 */
final class Host {
    private static final int BAD = -1, NOTHING_THERE = -11, OTHER_KIND = -12, NO_PLACE = -13, SIZE_BELOW_0 = -14;
    private static final Class<?>[] KINDS = {Thing.class, Wrapped.class, Open.class, Hot.class, Safe.class,
        Shunned.class, Known.class, Feigned.class};

    /** What bodies 1 and 2 of acts need of the thing that has them. */
    private interface Acts {
        void begins(int body);

        int n();

        int takes(int x);

        int looks(int x);
    }

    private interface Opens extends Acts {
        default int opens(int x) {
            begins(1);
            return x + n();
        }
    }

    private interface Keeps extends Acts {
        default int keeps(int x) {
            begins(2);
            return takes(x) - looks(1);
        }
    }

    private static class Thing implements Opens, Keeps {
        private final int n;
        private final List<Integer> trace;

        Thing(int n, List<Integer> trace) {
            this.n = n;
            this.trace = trace;
        }

        @Override
        public void begins(int body) {
            trace.add(body);
        }

        @Override
        public int n() {
            return n;
        }

        @Override
        public int takes(int x) {
            begins(10);
            return opens(x) * 2;
        }

        @Override
        public int looks(int x) {
            begins(11);
            return x ^ n;
        }
    }

    private static class Wrapped extends Thing {
        Wrapped(int n, List<Integer> trace) {
            super(n, trace);
        }

        @Override
        public int opens(int x) {
            begins(20);
            return super.opens(x) + 3;
        }
    }

    private static class Open extends Thing {
        Open(int n, List<Integer> trace) {
            super(n, trace);
        }

        @Override
        public int takes(int x) {
            begins(30);
            return -super.takes(x);
        }
    }

    private static class Hot extends Open {
        Hot(int n, List<Integer> trace) {
            super(n, trace);
        }

        @Override
        public int looks(int x) {
            begins(40);
            return super.looks(x) * 3;
        }

        @Override
        public int takes(int x) {
            begins(41);
            return super.takes(x + 1);
        }
    }

    private static final class Safe extends Wrapped {
        Safe(int n, List<Integer> trace) {
            super(n, trace);
        }

        @Override
        public int keeps(int x) {
            begins(50);
            return super.keeps(x) ^ 5;
        }
    }

    private static final class Shunned extends Hot {
        Shunned(int n, List<Integer> trace) {
            super(n, trace);
        }

        @Override
        public int looks(int x) {
            begins(60);
            return super.looks(x) - opens(2);
        }

        @Override
        public int keeps(int x) {
            begins(61);
            return super.keeps(x) + 1;
        }
    }

    private static class Known extends Thing {
        Known(int n, List<Integer> trace) {
            super(n, trace);
        }

        @Override
        public int opens(int x) {
            begins(70);
            return super.opens(x) * 2;
        }
    }

    private static final class Feigned extends Known {
        Feigned(int n, List<Integer> trace) {
            super(n, trace);
        }

        @Override
        public int takes(int x) {
            begins(80);
            return super.takes(x) + looks(2);
        }

        @Override
        public int opens(int x) {
            begins(81);
            return super.opens(x) - 1;
        }
    }

    private final List<Thing> bodies = new ArrayList<>();
    private final List<Integer> trace = new ArrayList<>();
    private final Object[] shelves = new Object[6];

    int bodies() {
        return bodies.size();
    }

    int ran() {
        return trace.size();
    }

    int trace(int i) {
        return i >= 0 && i < trace.size() && i < 24 ? trace.get(i) : BAD;
    }

    int body(int kind) {
        if (kind < 0 || kind > 7) {
            return BAD;
        }
        int n = bodies.size();
        if (n == 50) {
            return -3;
        }
        bodies.add(switch (kind) {
            case 0 -> new Thing(n, trace);
            case 1 -> new Wrapped(n, trace);
            case 2 -> new Open(n, trace);
            case 3 -> new Hot(n, trace);
            case 4 -> new Safe(n, trace);
            case 5 -> new Shunned(n, trace);
            case 6 -> new Known(n, trace);
            default -> new Feigned(n, trace);
        });
        return n;
    }

    int act(int body, int act, int x) {
        trace.clear();
        if (body < 0 || body >= bodies.size()) {
            return 0;
        }
        Thing thing = bodies.get(body);
        return switch (act) {
            case 0 -> thing.opens(x);
            case 1 -> thing.takes(x);
            case 2 -> thing.looks(x);
            case 3 -> thing.keeps(x);
            default -> 0;
        };
    }

    private boolean isShelf(int shelf) {
        return shelf >= 0 && shelf < shelves.length;
    }

    int keep(int shelf, int body) {
        if (!isShelf(shelf) || body < -1 || body >= bodies.size()) {
            return BAD;
        }
        shelves[shelf] = body < 0 ? null : bodies.get(body);
        return 1;
    }

    int row(int shelf, int sort, int n) {
        if (!isShelf(shelf) || sort < 0 || sort > 4 || n > 60) {
            return BAD;
        }
        try {
            shelves[shelf] = switch (sort) {
                case 0 -> new byte[n];
                case 1 -> new short[n];
                case 2 -> new int[n];
                case 3 -> new long[n];
                default -> new boolean[n];
            };
            return 1;
        } catch (NegativeArraySizeException below0) {
            return SIZE_BELOW_0;
        }
    }

    int put(int shelf, int i, long v) {
        if (!isShelf(shelf)) {
            return BAD;
        }
        Object held = shelves[shelf];
        try {
            if (held instanceof byte[] row) {
                row[i] = (byte) v;
            } else if (held instanceof short[] row) {
                row[i] = (short) v;
            } else if (held instanceof int[] row) {
                row[i] = (int) v;
            } else if (held instanceof boolean[] row) {
                row[i] = v != 0;
            } else if (held == null) {
                return NOTHING_THERE;
            } else {
                ((long[]) held)[i] = v;
            }
            return 1;
        } catch (ClassCastException anotherKind) {
            return OTHER_KIND;
        } catch (ArrayIndexOutOfBoundsException noPlace) {
            return NO_PLACE;
        }
    }

    long element(int shelf, int i) {
        if (!isShelf(shelf) || shelves[shelf] == null) {
            return Long.MIN_VALUE;
        }
        Object held = shelves[shelf];
        try {
            return held instanceof boolean[] row ? (row[i] ? 1 : 0) : java.lang.reflect.Array.getLong(held, i);
        } catch (IllegalArgumentException | ArrayIndexOutOfBoundsException refused) {
            return Long.MIN_VALUE;
        }
    }

    int shift(int shelf, int i, int other, int j, int n) {
        if (!isShelf(shelf) || !isShelf(other)) {
            return BAD;
        }
        try {
            System.arraycopy(shelves[shelf], i, shelves[other], j, n);
            return n;
        } catch (NullPointerException nothing) {
            return NOTHING_THERE;
        } catch (ArrayStoreException unlike) {
            return OTHER_KIND;
        } catch (IndexOutOfBoundsException noPlace) {
            return NO_PLACE;
        }
    }

    int taken(int shelf, int k) {
        if (!isShelf(shelf) || k < 0 || k > 7) {
            return BAD;
        }
        if (shelves[shelf] == null) {
            return NOTHING_THERE;
        }
        try {
            return List.of(KINDS).indexOf(KINDS[k].cast(shelves[shelf]).getClass());
        } catch (ClassCastException anotherKind) {
            return OTHER_KIND;
        }
    }

    /** BAD, -11, -12 for what is no row of bytes; 0. */
    int refusalOfBytes(int shelf) {
        if (!isShelf(shelf)) {
            return BAD;
        }
        return shelves[shelf] == null ? NOTHING_THERE : shelves[shelf] instanceof byte[] ? 0 : OTHER_KIND;
    }

    List<Integer> bytes(int shelf) {
        List<Integer> bytes = new ArrayList<>();
        for (byte one : (byte[]) shelves[shelf]) {
            bytes.add((int) one);
        }
        return bytes;
    }
}
