/** The edges of promises 1 to 6. */
final class PeopleEdges extends Edges {
    PeopleEdges(Sentences sentences) {
        super(sentences);
    }

    @Override
    void hold() {
        aNewObject();
        fiveHundredAndTwelveCalls();
        refusals();
        persons();
        peopleFromARow();
        whereARowEnds();
        whatPeopleAreLike();
        mendings();
        whatIsOf();
        swaps();
    }

    private void aNewObject() {
        of(1, "Nobody.");
        OpenOrTake x = new OpenOrTake();
        for (int what = 0; what <= 6; what++) {
            is("count(" + what + ")", x.count(what), 0);
        }
        for (int what = 0; what <= 2; what++) {
            is("of(0, " + what + ")", x.of(0, what), BAD);
        }
        for (int what = 10; what <= 13; what++) {
            is("of(0, " + what + ")", x.of(0, what), BAD);
        }
        is("turn()", x.turn(), NOT);
        is("led(2)", x.led(2), 0);
        is("undo()", x.undo(), STATE);
        is("redo()", x.redo(), STATE);
        is("back()", x.back(), STATE);
        is("trace(0)", x.trace(0), BAD);
        is("anew()", x.anew(), 0);

        of(1, "All memory is the class's own.");
        OpenOrTake one = new OpenOrTake();
        OpenOrTake other = lived();
        other.goOn();
        for (int part = 0; part < Told.PARTS; part++) {
            boolean alike = Told.part(one, part).equals(Told.part(new OpenOrTake(), part));
            is("what another object hears changes this one's part " + part, alike ? 0 : 1, 0);
            one = new OpenOrTake();
        }
    }

    private void fiveHundredAndTwelveCalls() {
        of(1, "An object is used for at most 512 calls after it has been made");
        OpenOrTake x = new OpenOrTake();
        x.person(0);
        for (int call = 2; call <= 511; call++) {
            x.mend(0, 0, call % 97);
        }
        is("the 512th call", x.of(0, 0), 511 % 97);
        x = people(7);
        x.row(0, 0, 0);
        for (int call = 9; call <= 511; call++) {
            x.lots(0);
        }
        is("the 512th call, of LOTS", x.lots(0), 5040);
        x = people(7);
        for (int call = 8; call <= 511; call++) {
            x.numbers(call, 30, call % 7);
        }
        is("the 512th call, of a parcel's FACE", x.face(6), 0);
    }

    /** Which refusal is named first is held beside the promises' own refusals. */
    private void refusals() {
        of(1, "BAD (-1): no such number, or it is not as said");
        is("BAD", OpenOrTake.BAD, -1);
        is("no such number", people(2).of(2, 10), -1);
        is("not as said", people(2).mend(0, 0, 100), -1);
        of(1, "NOT (-2): as told");
        is("NOT", OpenOrTake.NOT, -2);
        is("nobody's turn", new OpenOrTake().turn(), -2);
        of(1, "FULL (-3)");
        is("FULL", OpenOrTake.FULL, -3);
        is("an eighth", people(7).person(0), -3);
        of(1, "STATE (-5): as told");
        is("STATE", OpenOrTake.STATE, -5);
        is("nothing to be undone", people(2).undo(), -5);
        of(1, "VOID is -2000000000.");
        is("VOID", OpenOrTake.VOID, -2000000000);

        of(2, "Answers, of several the one named first");
        is("BAD, STATE and FULL", opened(7, 1).person(3), BAD);
        is("STATE and FULL", opened(7, 1).person(0), STATE);
        of(2, "What is answered so changes nothing.");
        refused("person(3)", BAD, Edges::lived, x -> x.person(3));
        refused("person(0)", STATE, Edges::lived, x -> x.person(0));
    }

    private void persons() {
        of(2, "PEOPLE 0 .. 6, as they come, and with each a PARCEL of its number.");
        OpenOrTake x = new OpenOrTake();
        for (int i = 0; i <= 6; i++) {
            is("the next one", x.person(0), i);
            is("its parcel is wrapped", x.of(i, 13), 1);
            is("the next parcel is not there", x.of(i + 1, 13), BAD);
        }
        is("parcels", x.count(1), 7);

        of(2, "A PERSON, last in THE LOT: the number.");
        x = people(2);
        x.swap(1);
        is("a third behind a swap", x.person(1), 2);
        is("its place", x.of(2, 10), 2);
        is("place 0", x.of(0, 10), 1);
        is("place 1", x.of(1, 10), 0);

        of(2, "THE LOT: a row of PEOPLE (by numbers at first).");
        x = people(7);
        for (int place = 0; place <= 6; place++) {
            is("place " + place, x.of(place, 10), place);
        }

        of(2, "BAD");
        x = people(0);
        is("way 0", x.person(0), 0);
        is("way 2", x.person(2), 1);
        is("it is way 2", x.of(1, 2), 2);
        for (int way : new int[] {-1, 3, MIN, MAX}) {
            refused("person(" + way + ")", BAD, () -> people(2), y -> y.person(way));
        }

        of(2, "STATE: an EVENING has begun");
        refused("behind the first turn", STATE, () -> opened(3, 1), y -> y.person(0));
        refused("as one was robbed", STATE, () -> robbed(3), y -> y.person(0));
        refused("behind the end", STATE, () -> opened(3, 3), y -> y.person(0));
        x = opened(3, 3);
        x.anew();
        is("behind anew", x.person(0), 3);
        is("with one who waits for the first turn", people(1).person(0), 1);

        of(2, "FULL: 7.");
        is("a seventh", people(6).person(2), 6);
        refused("an eighth", FULL, () -> people(7), y -> y.person(2));
    }

    /** Person 1 has just taken parcel 0 from person 0. */
    private static OpenOrTake robbed(int n) {
        OpenOrTake x = opened(n, 1);
        x.take(0);
        return x;
    }

    private static OpenOrTake rowOf(int people, long... ways) {
        OpenOrTake x = people(people);
        Due.row(x, 0, 0, ways);
        return x;
    }

    private void peopleFromARow() {
        of(3, "PEOPLE FROM A ROW on a SHELF, from place i on, n (1 .. 7) of them: how many came");
        OpenOrTake x = rowOf(0, 2, 1, 0, 2, 1, 0, 2, 1);
        is("all seven from place 1 on", x.people(0, 1, 7), 7);
        for (int i = 0; i < 7; i++) {
            is("way of " + i, x.of(i, 2), 2 - (i + 1) % 3);
            is("place of " + i, x.of(i, 10), i);
        }
        x = rowOf(0, 2, 1);
        is("one", x.people(0, 0, 1), 1);
        is("just one", x.count(0), 1);

        of(3, "PEOPLE FROM A ROW of bytes, from place i on: WAYS: n of them");
        x = rowOf(1, 0, 1, 2, 0);
        is("two", x.people(0, 1, 2), 2);
        is("way of the first", x.of(1, 2), 1);
        is("way of the second", x.of(2, 2), 2);
        is("people", x.count(0), 3);

        of(3, "(0 with i below 0)");
        for (int i : new int[] {-1, -2, -7, MIN}) {
            refused("from place " + i + " on", 0, () -> rowOf(2, 0, 0, 0), y -> y.people(0, i, 7));
        }

        of(3, "BAD");
        for (int shelf : new int[] {-1, 6, MIN, MAX}) {
            refused("shelf " + shelf, BAD, () -> rowOf(2, 0, 0, 0), y -> y.people(shelf, 0, 1));
        }
        for (int n : new int[] {0, 8, -1, MIN, MAX}) {
            refused("n " + n, BAD, () -> rowOf(2, 0, 0, 0), y -> y.people(0, 0, n));
        }
        is("shelf 5", rowOn(5, 0).people(5, 0, 1), 1);
        is("BAD ahead of -12 and STATE", lived().people(2, 0, 0), BAD);
        is("BAD with i below 0", rowOf(2, 0).people(0, -1, 0), BAD);

        of(3, "-12 (no ROW of bytes; a SHELF that holds nothing is missing)");
        for (int sort = 1; sort <= 4; sort++) {
            int one = sort;
            refused("a row of sort " + sort, OTHER_KIND, () -> rowOn(0, one), y -> y.people(0, 0, 1));
        }
        refused("a body", OTHER_KIND, PeopleEdges::bodyOn0, y -> y.people(0, 0, 1));
        refused("a row of ints, place -1", OTHER_KIND, () -> rowOn(0, 2), y -> y.people(0, -1, 1));
        refused("nothing there", 0, () -> people(2), y -> y.people(0, 0, 1));
        is("-12 ahead of STATE", lived().people(2, 0, 1), OTHER_KIND);

        of(3, "STATE likewise.");
        refused("an evening has begun", STATE, Edges::lived, y -> y.people(1, 0, 1));
        x = rowOf(3, 1, 1);
        x.goOn();
        is("it has ended", x.people(0, 0, 1), STATE);
        x.anew();
        is("all are wrapped again", x.people(0, 0, 1), 1);
        x = rowOf(7, 1, 1);
        x.open();
        is("STATE with seven people", x.people(0, 0, 1), STATE);
        is("STATE with nothing there", opened(2, 1).people(0, 0, 1), STATE);
    }

    private static OpenOrTake rowOn(int shelf, int sort) {
        OpenOrTake x = people(2);
        Due.row(x, shelf, sort, 1, 1, 1);
        return x;
    }

    private static OpenOrTake bodyOn0() {
        OpenOrTake x = people(2);
        x.body(0);
        x.keep(0, 0);
        return x;
    }

    private void whereARowEnds() {
        of(3, "it ends where the row is missing");
        OpenOrTake x = rowOf(0, 1, 1, 1);
        is("no row was ever there", x.people(5, 0, 3), 0);
        x.keep(0, -1);
        is("no row is there any more", x.people(0, 0, 3), 0);
        is("nobody came", x.count(0), 0);

        of(3, "it ends where the row is missing, ends,");
        x = rowOf(0, 1, 1, 1);
        is("behind the row", x.people(0, 3, 1), 0);
        is("far behind the row", x.people(0, 61, 7), 0);
        is("farther than all rows", x.people(0, MAX, 7), 0);
        is("the last one", x.people(0, 2, 1), 1);
        is("the last two of more", x.people(0, 1, 7), 2);
        x.row(0, 0, 0);
        is("a row of none", x.people(0, 0, 1), 0);
        x.row(0, 0, 60);
        is("the last of sixty", x.people(0, 59, 7), 1);
        is("behind the last of sixty", x.people(0, 60, 1), 0);
        is("those ahead came", x.count(0), 4);

        of(3, "one is not as it may be");
        for (long way : new long[] {3, -1, 127, -128}) {
            x = rowOf(0, 2, way, 1);
            is("till way " + way, x.people(0, 0, 3), 1);
            is("from way " + way + " on", x.people(0, 1, 1), 0);
            is("those ahead came", x.count(0), 1);
        }
        x = rowOf(0, 256, 258, 255);
        is("256 and 258 keep 0 and 2; 255 keeps -1", x.people(0, 0, 3), 2);
        is("way 2", x.of(1, 2), 2);

        of(3, "or PEOPLE are FULL: those ahead came.");
        x = rowOf(5, 2, 1, 2, 1);
        is("two of four", x.people(0, 0, 4), 2);
        is("the seventh one's way", x.of(6, 2), 1);
        is("people", x.count(0), 7);
        refused("none of four", 0, () -> rowOf(7, 2, 1, 2, 1), y -> y.people(0, 0, 4));
    }

    private void whatPeopleAreLike() {
        of(4, "WORTH of a PARCEL for one (0 .. 99; 0 at first)");
        OpenOrTake x = people(7);
        for (int pn : new int[] {0, 6, 60, 66}) {
            is("at first", x.mend(pn, 0, 99), 0);
            is("99", x.of(pn, 0), 99);
            refused("100", BAD, () -> people(7), y -> y.mend(pn, 0, 100));
            refused("-1", BAD, () -> people(7), y -> y.mend(pn, 0, -1));
            is("0", x.mend(pn, 0, 0), 99);
        }
        of(4, "LIKE of one for another one (0 .. 9; 5 at first)");
        for (int pn : new int[] {1, 6, 60, 65}) {
            is("at first", x.mend(pn, 1, 9), 5);
            is("9", x.of(pn, 1), 9);
            refused("10", BAD, () -> people(7), y -> y.mend(pn, 1, 10));
            refused("-1", BAD, () -> people(7), y -> y.mend(pn, 1, -1));
            is("0", x.mend(pn, 1, 0), 9);
        }
        of(4, "a WAY (0 .. 2; 0 at first)");
        for (int i : new int[] {0, 6}) {
            is("at first", x.mend(i, 2, 2), 0);
            is("2", x.of(i, 2), 2);
            refused("3", BAD, () -> people(7), y -> y.mend(i, 2, 3));
            refused("-1", BAD, () -> people(7), y -> y.mend(i, 2, -1));
            is("0", x.mend(i, 2, 0), 2);
        }
        of(4, "MOST (1 .. 3; 3 at first)");
        is("at first", x.mend(0, 3, 1), 3);
        is("1", x.of(0, 3), 1);
        refused("0", BAD, () -> people(7), y -> y.mend(0, 3, 0));
        refused("4", BAD, () -> people(7), y -> y.mend(0, 3, 4));
        is("3", x.mend(0, 3, 3), 1);
        of(4, "AGAIN (0, 1; 0 at first)");
        is("at first", x.mend(0, 4, 1), 0);
        is("1", x.of(0, 4), 1);
        refused("-1", BAD, () -> people(7), y -> y.mend(0, 4, -1));
        refused("2", BAD, () -> people(7), y -> y.mend(0, 4, 2));
        is("0", x.mend(0, 4, 0), 1);
        of(4, "(MOST, AGAIN: LAWS of the party.)");
        x = new OpenOrTake();
        is("they are there with nobody", x.mend(0, 3, 2) + 10 * x.mend(0, 4, 1), 3);
        x.person(0);
        is("and stay as people come", x.of(0, 3) + 10 * x.of(0, 4), 12);
    }

    private void mendings() {
        of(4, "(pn: 10 times the PERSON and the PARCEL, or the other PERSON)");
        OpenOrTake x = people(3);
        x.mend(12, 0, 7);
        x.mend(12, 1, 8);
        is("worth of 2 for 1", x.of(12, 0), 7);
        is("worth of 1 for 2", x.of(21, 0), 0);
        is("like of 1 for 2", x.of(12, 1), 8);
        is("like of 2 for 1", x.of(21, 1), 5);
        is("best of 1", x.best(1), 2);

        OpenOrTake five = people(5);
        for (int pn = -1; pn <= 110; pn++) {
            boolean pair = pn >= 0 && pn / 10 < 5 && pn % 10 < 5;
            is("worth of " + pn, five.mend(pn, 0, 3), pair ? 0 : BAD);
            is("like of " + pn, five.mend(pn, 1, 3), pair && pn / 10 != pn % 10 ? 5 : BAD);
        }

        of(4, "WORTH (what 0), LIKE (1; unlike ones) of pn, WAY (2) of a PERSON, MOST (3), AGAIN (4;");
        for (int pn : new int[] {0, 11, 22}) {
            is("one's own parcel", x.mend(pn, 0, 1), 0);
            refused("one's like of oneself", BAD, () -> people(3), y -> y.mend(pn, 1, 5));
        }
        for (int what = 0; what <= 1; what++) {
            int one = what;
            for (int pn : new int[] {3, 13, 30, 31, 33, 9, 70, 77, 100, -1, -10, -12, MIN, MAX}) {
                refused("mend(" + pn + ", " + what + ", 5)", BAD, () -> people(3), y -> y.mend(pn, one, 5));
            }
        }
        for (int i : new int[] {3, 7, 10, -1, MIN, MAX}) {
            refused("way of " + i, BAD, () -> people(3), y -> y.mend(i, 2, 1));
        }
        for (int what : new int[] {-1, 5, 10, 11, 12, 13, MIN, MAX}) {
            refused("what " + what, BAD, () -> people(3), y -> y.mend(0, what, 1));
        }
        of(4, "number 0 for both, another: BAD");
        for (int number : new int[] {1, -1, 10, MIN, MAX}) {
            refused("MOST of " + number, BAD, () -> people(3), y -> y.mend(number, 3, 1));
            refused("AGAIN of " + number, BAD, () -> people(3), y -> y.mend(number, 4, 1));
        }
        of(4, "becomes v: what it was.");
        is("it was 7", x.mend(12, 0, 9), 7);
        is("it was 9", x.mend(12, 0, 9), 9);
        is("it was 9", x.mend(12, 0, 0), 9);
        of(4, "BAD.");
        for (int v : new int[] {MIN, MAX, -1, 100}) {
            for (int what = 0; what <= 4; what++) {
                int one = what;
                refused("mend(1, " + what + ", " + v + ")", BAD, Edges::lived, y -> y.mend(one < 3 ? 1 : 0, one, v));
            }
        }
    }

    private void whatIsOf() {
        of(5, "As of mend() (0 to 4)");
        OpenOrTake x = lived();
        is("a worth", x.of(12, 0), 60);
        is("a like", x.of(20, 1), 2);
        is("a way", x.of(2, 2), 2);
        is("MOST", x.of(0, 3), 2);
        is("AGAIN", x.of(0, 4), 1);
        is("like of oneself", x.of(11, 1), BAD);
        is("MOST of 1", x.of(1, 3), BAD);
        is("AGAIN of 1", x.of(1, 4), BAD);
        is("worth of a parcel that is not there", x.of(4, 0), BAD);
        is("worth for one who is not there", x.of(40, 0), BAD);
        is("way of one who is not there", x.of(4, 2), BAD);
        of(5, "of a place 10 who stands there in THE LOT");
        is("place 1", x.of(1, 10), 2);
        is("place 3, the last", x.of(3, 10), 3);
        is("place 4", x.of(4, 10), BAD);
        is("place -1", x.of(-1, 10), BAD);
        of(5, "of a PERSON 11 HAS (NOT)");
        is("who has taken one", x.of(2, 11), 0);
        is("who was robbed and opened", x.of(0, 11), 1);
        is("who had no turn", x.of(3, 11), NOT);
        is("who was robbed just now", robbed(2).of(0, 11), NOT);
        is("one who is not there", x.of(4, 11), BAD);
        is("below 0", x.of(-1, 11), BAD);
        of(5, "HAS: the PARCEL of one (NOT: none yet).");
        is("ahead of the first turn", people(1).of(0, 11), NOT);
        is("behind it", opened(1, 1).of(0, 11), 0);
        of(5, "of a PARCEL 12 how often it was TAKEN");
        is("once", x.of(0, 12), 1);
        is("never", x.of(3, 12), 0);
        is("parcel 4", x.of(4, 12), BAD);
        is("parcel -1", x.of(-1, 12), BAD);
        of(5, "13 whether it is WRAPPED (1, 0)");
        is("the latest that was opened", x.of(1, 13), 0);
        is("the next", x.of(2, 13), 1);
        is("the last", x.of(3, 13), 1);
        is("parcel 4", x.of(4, 13), BAD);
        is("parcel -1", x.of(-1, 13), BAD);
        is("the last of all, opened", opened(7, 7).of(6, 13), 0);
        of(5, "BAD.");
        for (int what : new int[] {-1, 5, 6, 7, 8, 9, 14, MIN, MAX}) {
            refused("what " + what, BAD, Edges::lived, y -> y.of(0, what));
        }
        for (int what : new int[] {0, 1, 2, 3, 4, 10, 11, 12, 13}) {
            for (int number : new int[] {44, -1, -10, 70, 100, MIN, MAX}) {
                refused("of(" + number + ", " + what + ")", BAD, Edges::lived, y -> y.of(number, what));
            }
        }
    }

    private void swaps() {
        of(6, "THE LOT: places i and j (ij: 10 i and j; unlike) change: who is at i then.");
        OpenOrTake x = people(7);
        is("places 0 and 6", x.swap(6), 6);
        is("place 6", x.of(6, 10), 0);
        is("places 6 and 1", x.swap(61), 1);
        is("place 1", x.of(1, 10), 0);
        is("place 0", x.of(0, 10), 6);
        is("place 2", x.of(2, 10), 2);
        for (int ij = 0; ij < 70; ij++) {
            boolean pair = ij / 10 != ij % 10 && ij % 10 < 7;
            x = people(7);
            is("swap(" + ij + ")", x.swap(ij), pair ? ij % 10 : BAD);
            is("who is at i", x.of(ij / 10, 10), pair ? ij % 10 : ij / 10);
            is("who is at j", x.of(ij % 10, 10), ij % 10 >= 7 ? BAD : ij / 10);
        }
        for (int ij : new int[] {0, 11, 66}) {
            refused("swap(" + ij + ")", BAD, () -> people(7), y -> y.swap(ij));
        }
        of(6, "BAD;");
        for (int ij : new int[] {3, 30, 13, 31, 33, 8, 70, 77, 100, 101, -1, -10, -12, MIN, MAX}) {
            refused("swap(" + ij + ")", BAD, () -> people(3), y -> y.swap(ij));
        }
        is("a place alone", people(1).swap(1), BAD);
        is("no place", people(0).swap(1), BAD);
        is("BAD ahead of STATE", lived().swap(4), BAD);
        is("BAD ahead of STATE, of like ones", lived().swap(11), BAD);
        of(6, "STATE: an EVENING has begun.");
        refused("behind the first turn", STATE, () -> opened(3, 1), y -> y.swap(1));
        refused("as one was robbed", STATE, () -> robbed(3), y -> y.swap(12));
        refused("behind the end", STATE, () -> opened(3, 3), y -> y.swap(1));
        x = opened(3, 3);
        x.anew();
        is("behind anew", x.swap(1), 1);
    }
}
