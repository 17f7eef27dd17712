/** Counts and prints the answers that are not the ones that are due; and what many tests do with an object. */
final class Due {
    private final String name;
    private int asked = 0;
    private int wrong = 0;

    Due(String name) {
        this.name = name;
    }

    void is(String what, long got, long want) {
        asked++;
        if (got != want) {
            wrong++;
            System.out.println(name + ": " + what + " answered " + got + ", due is " + want);
        }
    }

    void end() {
        System.out.println(name + ": " + asked + " answers, " + wrong + " not as due");
        if (wrong != 0 || asked == 0) {
            System.exit(1);
        }
    }

    /** A party of people with these ways. */
    static OpenOrTake party(int... ways) {
        OpenOrTake x = new OpenOrTake();
        for (int way : ways) {
            x.person(way);
        }
        return x;
    }

    /** Worths by people and parcels. */
    static void worths(OpenOrTake x, int[][] worths) {
        for (int who = 0; who < worths.length; who++) {
            for (int parcel = 0; parcel < worths[who].length; parcel++) {
                x.mend(10 * who + parcel, 0, worths[who][parcel]);
            }
        }
    }

    static void row(OpenOrTake x, int shelf, int sort, long... elements) {
        x.row(shelf, sort, elements.length);
        for (int i = 0; i < elements.length; i++) {
            x.put(shelf, i, elements[i]);
        }
    }

    static int law(OpenOrTake x, String text) {
        for (int i = 0; i < text.length(); i++) {
            x.feed(text.charAt(i));
        }
        return x.law();
    }
}
